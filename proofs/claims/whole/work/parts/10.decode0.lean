theorem dX0_init_0 : decode cX0_init 0 = .ok (.aload_n 0, 1) := by decide +kernel
theorem dX0_init_1 : decode cX0_init 1 = .ok (.invokespecial 3, 3) := by decide +kernel
theorem dX0_init_4 : decode cX0_init 4 = .ok (.aload_n 0, 1) := by decide +kernel
theorem dX0_init_5 : decode cX0_init 5 = .ok (.bipush 25, 2) := by decide +kernel
theorem dX0_init_7 : decode cX0_init 7 = .ok (.newarray .int, 2) := by decide +kernel
theorem dX0_init_9 : decode cX0_init 9 = .ok (.putfield 9, 3) := by decide +kernel
theorem dX0_init_12 : decode cX0_init 12 = .ok (.aload_n 0, 1) := by decide +kernel
theorem dX0_init_13 : decode cX0_init 13 = .ok (.bipush 25, 2) := by decide +kernel
theorem dX0_init_15 : decode cX0_init 15 = .ok (.newarray .int, 2) := by decide +kernel
theorem dX0_init_17 : decode cX0_init 17 = .ok (.putfield 15, 3) := by decide +kernel
theorem dX0_init_20 : decode cX0_init 20 = .ok (.aload_n 0, 1) := by decide +kernel
theorem dX0_init_21 : decode cX0_init 21 = .ok (.bipush 12, 2) := by decide +kernel
theorem dX0_init_23 : decode cX0_init 23 = .ok (.newarray .int, 2) := by decide +kernel
theorem dX0_init_25 : decode cX0_init 25 = .ok (.putfield 18, 3) := by decide +kernel
theorem dX0_init_28 : decode cX0_init 28 = .ok (.aload_n 0, 1) := by decide +kernel
theorem dX0_init_29 : decode cX0_init 29 = .ok (.bipush 9, 2) := by decide +kernel
theorem dX0_init_31 : decode cX0_init 31 = .ok (.newarray .int, 2) := by decide +kernel
theorem dX0_init_33 : decode cX0_init 33 = .ok (.putfield 21, 3) := by decide +kernel
theorem dX0_init_36 : decode cX0_init 36 = .ok (.aload_n 0, 1) := by decide +kernel
theorem dX0_init_37 : decode cX0_init 37 = .ok (.bipush 9, 2) := by decide +kernel
theorem dX0_init_39 : decode cX0_init 39 = .ok (.newarray .int, 2) := by decide +kernel
theorem dX0_init_41 : decode cX0_init 41 = .ok (.putfield 24, 3) := by decide +kernel
theorem dX0_init_44 : decode cX0_init 44 = .ok (.aload_n 0, 1) := by decide +kernel
theorem dX0_init_45 : decode cX0_init 45 = .ok (.bipush 6, 2) := by decide +kernel
theorem dX0_init_47 : decode cX0_init 47 = .ok (.newarray .int, 2) := by decide +kernel
theorem dX0_init_49 : decode cX0_init 49 = .ok (.putfield 27, 3) := by decide +kernel
theorem dX0_init_52 : decode cX0_init 52 = .ok (.aload_n 0, 1) := by decide +kernel
theorem dX0_init_53 : decode cX0_init 53 = .ok (.bipush 25, 2) := by decide +kernel
theorem dX0_init_55 : decode cX0_init 55 = .ok (.newarray .int, 2) := by decide +kernel
theorem dX0_init_57 : decode cX0_init 57 = .ok (.putfield 30, 3) := by decide +kernel
theorem dX0_init_60 : decode cX0_init 60 = .ok (.return_, 1) := by decide +kernel
theorem dX0_firstStripApart_0 : decode cX0_firstStripApart 0 = .ok (.aload_n 1, 1) := by decide +kernel
theorem dX0_firstStripApart_1 : decode cX0_firstStripApart 1 = .ok (.aload_n 1, 1) := by decide +kernel
theorem dX0_firstStripApart_2 : decode cX0_firstStripApart 2 = .ok (.getfield 33, 3) := by decide +kernel
theorem dX0_firstStripApart_5 : decode cX0_firstStripApart 5 = .ok (.iload_n 2, 1) := by decide +kernel
theorem dX0_firstStripApart_6 : decode cX0_firstStripApart 6 = .ok (.iaload, 1) := by decide +kernel
theorem dX0_firstStripApart_7 : decode cX0_firstStripApart 7 = .ok (.aload_n 0, 1) := by decide +kernel
theorem dX0_firstStripApart_8 : decode cX0_firstStripApart 8 = .ok (.getfield 9, 3) := by decide +kernel
theorem dX0_firstStripApart_11 : decode cX0_firstStripApart 11 = .ok (.aload_n 0, 1) := by decide +kernel
theorem dX0_firstStripApart_12 : decode cX0_firstStripApart 12 = .ok (.getfield 21, 3) := by decide +kernel
theorem dX0_firstStripApart_15 : decode cX0_firstStripApart 15 = .ok (.iconst 0, 1) := by decide +kernel
theorem dX0_firstStripApart_16 : decode cX0_firstStripApart 16 = .ok (.invokevirtual 38, 3) := by decide +kernel
theorem dX0_firstStripApart_19 : decode cX0_firstStripApart 19 = .ok (.aload_n 1, 1) := by decide +kernel
theorem dX0_firstStripApart_20 : decode cX0_firstStripApart 20 = .ok (.aload_n 1, 1) := by decide +kernel
theorem dX0_firstStripApart_21 : decode cX0_firstStripApart 21 = .ok (.getfield 33, 3) := by decide +kernel
theorem dX0_firstStripApart_24 : decode cX0_firstStripApart 24 = .ok (.iload_n 2, 1) := by decide +kernel
theorem dX0_firstStripApart_25 : decode cX0_firstStripApart 25 = .ok (.iaload, 1) := by decide +kernel
theorem dX0_firstStripApart_26 : decode cX0_firstStripApart 26 = .ok (.aload_n 0, 1) := by decide +kernel
theorem dX0_firstStripApart_27 : decode cX0_firstStripApart 27 = .ok (.getfield 15, 3) := by decide +kernel
theorem dX0_firstStripApart_30 : decode cX0_firstStripApart 30 = .ok (.aload_n 0, 1) := by decide +kernel
theorem dX0_firstStripApart_31 : decode cX0_firstStripApart 31 = .ok (.getfield 24, 3) := by decide +kernel
theorem dX0_firstStripApart_34 : decode cX0_firstStripApart 34 = .ok (.iconst 0, 1) := by decide +kernel
theorem dX0_firstStripApart_35 : decode cX0_firstStripApart 35 = .ok (.invokevirtual 38, 3) := by decide +kernel
theorem dX0_firstStripApart_38 : decode cX0_firstStripApart 38 = .ok (.iconst 0, 1) := by decide +kernel
theorem dX0_firstStripApart_39 : decode cX0_firstStripApart 39 = .ok (.istore_n 3, 1) := by decide +kernel
theorem dX0_firstStripApart_40 : decode cX0_firstStripApart 40 = .ok (.iload_n 3, 1) := by decide +kernel
theorem dX0_firstStripApart_41 : decode cX0_firstStripApart 41 = .ok (.aload_n 1, 1) := by decide +kernel
theorem dX0_firstStripApart_42 : decode cX0_firstStripApart 42 = .ok (.iload_n 2, 1) := by decide +kernel
theorem dX0_firstStripApart_43 : decode cX0_firstStripApart 43 = .ok (.invokevirtual 42, 3) := by decide +kernel
theorem dX0_firstStripApart_46 : decode cX0_firstStripApart 46 = .ok (.if_icmp .ge 26, 3) := by decide +kernel
theorem dX0_firstStripApart_49 : decode cX0_firstStripApart 49 = .ok (.aload_n 0, 1) := by decide +kernel
theorem dX0_firstStripApart_50 : decode cX0_firstStripApart 50 = .ok (.getfield 21, 3) := by decide +kernel
theorem dX0_firstStripApart_53 : decode cX0_firstStripApart 53 = .ok (.iload_n 3, 1) := by decide +kernel
theorem dX0_firstStripApart_54 : decode cX0_firstStripApart 54 = .ok (.iaload, 1) := by decide +kernel
theorem dX0_firstStripApart_55 : decode cX0_firstStripApart 55 = .ok (.aload_n 0, 1) := by decide +kernel
theorem dX0_firstStripApart_56 : decode cX0_firstStripApart 56 = .ok (.getfield 24, 3) := by decide +kernel
theorem dX0_firstStripApart_59 : decode cX0_firstStripApart 59 = .ok (.iload_n 3, 1) := by decide +kernel
theorem dX0_firstStripApart_60 : decode cX0_firstStripApart 60 = .ok (.iaload, 1) := by decide +kernel
theorem dX0_firstStripApart_61 : decode cX0_firstStripApart 61 = .ok (.if_icmp .eq 5, 3) := by decide +kernel
theorem dX0_firstStripApart_64 : decode cX0_firstStripApart 64 = .ok (.iload_n 3, 1) := by decide +kernel
theorem dX0_firstStripApart_65 : decode cX0_firstStripApart 65 = .ok (.ireturn, 1) := by decide +kernel
theorem dX0_firstStripApart_66 : decode cX0_firstStripApart 66 = .ok (.iinc 3 1, 3) := by decide +kernel
theorem dX0_firstStripApart_69 : decode cX0_firstStripApart 69 = .ok (.goto (-29), 3) := by decide +kernel
theorem dX0_firstStripApart_72 : decode cX0_firstStripApart 72 = .ok (.iconst (-1), 1) := by decide +kernel
theorem dX0_firstStripApart_73 : decode cX0_firstStripApart 73 = .ok (.ireturn, 1) := by decide +kernel
theorem dX0_fewestWatchers_0 : decode cX0_fewestWatchers 0 = .ok (.aload_n 0, 1) := by decide +kernel
theorem dX0_fewestWatchers_1 : decode cX0_fewestWatchers 1 = .ok (.aload_n 1, 1) := by decide +kernel
theorem dX0_fewestWatchers_2 : decode cX0_fewestWatchers 2 = .ok (.aload_n 2, 1) := by decide +kernel
theorem dX0_fewestWatchers_3 : decode cX0_fewestWatchers 3 = .ok (.iload_n 3, 1) := by decide +kernel
theorem dX0_fewestWatchers_4 : decode cX0_fewestWatchers 4 = .ok (.invokevirtual 46, 3) := by decide +kernel
theorem dX0_fewestWatchers_7 : decode cX0_fewestWatchers 7 = .ok (.iload_n 3, 1) := by decide +kernel
theorem dX0_fewestWatchers_8 : decode cX0_fewestWatchers 8 = .ok (.iload_n 3, 1) := by decide +kernel
theorem dX0_fewestWatchers_9 : decode cX0_fewestWatchers 9 = .ok (.iconst 1, 1) := by decide +kernel
theorem dX0_fewestWatchers_10 : decode cX0_fewestWatchers 10 = .ok (.isub, 1) := by decide +kernel
theorem dX0_fewestWatchers_11 : decode cX0_fewestWatchers 11 = .ok (.imul, 1) := by decide +kernel
theorem dX0_fewestWatchers_12 : decode cX0_fewestWatchers 12 = .ok (.iconst 2, 1) := by decide +kernel
theorem dX0_fewestWatchers_13 : decode cX0_fewestWatchers 13 = .ok (.idiv, 1) := by decide +kernel
theorem dX0_fewestWatchers_14 : decode cX0_fewestWatchers 14 = .ok (.istore 4, 2) := by decide +kernel
theorem dX0_fewestWatchers_16 : decode cX0_fewestWatchers 16 = .ok (.iconst (-1), 1) := by decide +kernel
theorem dX0_fewestWatchers_17 : decode cX0_fewestWatchers 17 = .ok (.istore 5, 2) := by decide +kernel
theorem dX0_fewestWatchers_19 : decode cX0_fewestWatchers 19 = .ok (.iconst 0, 1) := by decide +kernel
theorem dX0_fewestWatchers_20 : decode cX0_fewestWatchers 20 = .ok (.istore 6, 2) := by decide +kernel
theorem dX0_fewestWatchers_22 : decode cX0_fewestWatchers 22 = .ok (.iload 6, 2) := by decide +kernel
theorem dX0_fewestWatchers_24 : decode cX0_fewestWatchers 24 = .ok (.iconst 1, 1) := by decide +kernel
theorem dX0_fewestWatchers_25 : decode cX0_fewestWatchers 25 = .ok (.aload_n 1, 1) := by decide +kernel
theorem dX0_fewestWatchers_26 : decode cX0_fewestWatchers 26 = .ok (.getfield 50, 3) := by decide +kernel
theorem dX0_fewestWatchers_29 : decode cX0_fewestWatchers 29 = .ok (.ishl, 1) := by decide +kernel
theorem dX0_fewestWatchers_30 : decode cX0_fewestWatchers 30 = .ok (.if_icmp .ge 59, 3) := by decide +kernel
theorem dX0_fewestWatchers_33 : decode cX0_fewestWatchers 33 = .ok (.iload 5, 2) := by decide +kernel
theorem dX0_fewestWatchers_35 : decode cX0_fewestWatchers 35 = .ok (.iconst (-1), 1) := by decide +kernel
theorem dX0_fewestWatchers_36 : decode cX0_fewestWatchers 36 = .ok (.if_icmp .eq 16, 3) := by decide +kernel
theorem dX0_fewestWatchers_39 : decode cX0_fewestWatchers 39 = .ok (.iload 6, 2) := by decide +kernel
theorem dX0_fewestWatchers_41 : decode cX0_fewestWatchers 41 = .ok (.invokestatic 54, 3) := by decide +kernel
theorem dX0_fewestWatchers_44 : decode cX0_fewestWatchers 44 = .ok (.iload 5, 2) := by decide +kernel
theorem dX0_fewestWatchers_46 : decode cX0_fewestWatchers 46 = .ok (.invokestatic 54, 3) := by decide +kernel
theorem dX0_fewestWatchers_49 : decode cX0_fewestWatchers 49 = .ok (.if_icmp .ge 7, 3) := by decide +kernel
theorem dX0_fewestWatchers_52 : decode cX0_fewestWatchers 52 = .ok (.iconst 1, 1) := by decide +kernel
theorem dX0_fewestWatchers_53 : decode cX0_fewestWatchers 53 = .ok (.goto 4, 3) := by decide +kernel
theorem dX0_fewestWatchers_56 : decode cX0_fewestWatchers 56 = .ok (.iconst 0, 1) := by decide +kernel
theorem dX0_fewestWatchers_57 : decode cX0_fewestWatchers 57 = .ok (.istore 7, 2) := by decide +kernel
theorem dX0_fewestWatchers_59 : decode cX0_fewestWatchers 59 = .ok (.iload 7, 2) := by decide +kernel
theorem dX0_fewestWatchers_61 : decode cX0_fewestWatchers 61 = .ok (.ifCond .eq 22, 3) := by decide +kernel
theorem dX0_fewestWatchers_64 : decode cX0_fewestWatchers 64 = .ok (.aload_n 0, 1) := by decide +kernel
theorem dX0_fewestWatchers_65 : decode cX0_fewestWatchers 65 = .ok (.iload 6, 2) := by decide +kernel
theorem dX0_fewestWatchers_67 : decode cX0_fewestWatchers 67 = .ok (.invokevirtual 59, 3) := by decide +kernel
theorem dX0_fewestWatchers_70 : decode cX0_fewestWatchers 70 = .ok (.iconst 1, 1) := by decide +kernel
theorem dX0_fewestWatchers_71 : decode cX0_fewestWatchers 71 = .ok (.iload 4, 2) := by decide +kernel
theorem dX0_fewestWatchers_73 : decode cX0_fewestWatchers 73 = .ok (.ishl, 1) := by decide +kernel
theorem dX0_fewestWatchers_74 : decode cX0_fewestWatchers 74 = .ok (.iconst 1, 1) := by decide +kernel
theorem dX0_fewestWatchers_75 : decode cX0_fewestWatchers 75 = .ok (.isub, 1) := by decide +kernel
theorem dX0_fewestWatchers_76 : decode cX0_fewestWatchers 76 = .ok (.if_icmp .ne 7, 3) := by decide +kernel
theorem dX0_fewestWatchers_79 : decode cX0_fewestWatchers 79 = .ok (.iload 6, 2) := by decide +kernel
theorem dX0_fewestWatchers_81 : decode cX0_fewestWatchers 81 = .ok (.istore 5, 2) := by decide +kernel
theorem dX0_fewestWatchers_83 : decode cX0_fewestWatchers 83 = .ok (.iinc 6 1, 3) := by decide +kernel
theorem dX0_fewestWatchers_86 : decode cX0_fewestWatchers 86 = .ok (.goto (-64), 3) := by decide +kernel
theorem dX0_fewestWatchers_89 : decode cX0_fewestWatchers 89 = .ok (.iload 5, 2) := by decide +kernel
theorem dX0_fewestWatchers_91 : decode cX0_fewestWatchers 91 = .ok (.ireturn, 1) := by decide +kernel
theorem dX0_tellRowsApart_0 : decode cX0_tellRowsApart 0 = .ok (.aload_n 0, 1) := by decide +kernel
theorem dX0_tellRowsApart_1 : decode cX0_tellRowsApart 1 = .ok (.getfield 27, 3) := by decide +kernel
theorem dX0_tellRowsApart_4 : decode cX0_tellRowsApart 4 = .ok (.iconst 0, 1) := by decide +kernel
theorem dX0_tellRowsApart_5 : decode cX0_tellRowsApart 5 = .ok (.invokestatic 62, 3) := by decide +kernel
theorem dX0_tellRowsApart_8 : decode cX0_tellRowsApart 8 = .ok (.iconst 0, 1) := by decide +kernel
theorem dX0_tellRowsApart_9 : decode cX0_tellRowsApart 9 = .ok (.istore 4, 2) := by decide +kernel
theorem dX0_tellRowsApart_11 : decode cX0_tellRowsApart 11 = .ok (.iconst 0, 1) := by decide +kernel
theorem dX0_tellRowsApart_12 : decode cX0_tellRowsApart 12 = .ok (.istore 5, 2) := by decide +kernel
theorem dX0_tellRowsApart_14 : decode cX0_tellRowsApart 14 = .ok (.iload 5, 2) := by decide +kernel
theorem dX0_tellRowsApart_16 : decode cX0_tellRowsApart 16 = .ok (.iload_n 3, 1) := by decide +kernel
theorem dX0_tellRowsApart_17 : decode cX0_tellRowsApart 17 = .ok (.if_icmp .ge 117, 3) := by decide +kernel
theorem dX0_tellRowsApart_20 : decode cX0_tellRowsApart 20 = .ok (.aload_n 2, 1) := by decide +kernel
theorem dX0_tellRowsApart_21 : decode cX0_tellRowsApart 21 = .ok (.iload 5, 2) := by decide +kernel
theorem dX0_tellRowsApart_23 : decode cX0_tellRowsApart 23 = .ok (.aload_n 1, 1) := by decide +kernel
theorem dX0_tellRowsApart_24 : decode cX0_tellRowsApart 24 = .ok (.getfield 68, 3) := by decide +kernel
theorem dX0_tellRowsApart_27 : decode cX0_tellRowsApart 27 = .ok (.imul, 1) := by decide +kernel
theorem dX0_tellRowsApart_28 : decode cX0_tellRowsApart 28 = .ok (.aload_n 1, 1) := by decide +kernel
theorem dX0_tellRowsApart_29 : decode cX0_tellRowsApart 29 = .ok (.getfield 68, 3) := by decide +kernel
theorem dX0_tellRowsApart_32 : decode cX0_tellRowsApart 32 = .ok (.aload_n 0, 1) := by decide +kernel
theorem dX0_tellRowsApart_33 : decode cX0_tellRowsApart 33 = .ok (.getfield 9, 3) := by decide +kernel
theorem dX0_tellRowsApart_36 : decode cX0_tellRowsApart 36 = .ok (.iconst 0, 1) := by decide +kernel
theorem dX0_tellRowsApart_37 : decode cX0_tellRowsApart 37 = .ok (.invokevirtual 71, 3) := by decide +kernel
theorem dX0_tellRowsApart_40 : decode cX0_tellRowsApart 40 = .ok (.iload 5, 2) := by decide +kernel
theorem dX0_tellRowsApart_42 : decode cX0_tellRowsApart 42 = .ok (.iconst 1, 1) := by decide +kernel
theorem dX0_tellRowsApart_43 : decode cX0_tellRowsApart 43 = .ok (.iadd, 1) := by decide +kernel
theorem dX0_tellRowsApart_44 : decode cX0_tellRowsApart 44 = .ok (.istore 6, 2) := by decide +kernel
theorem dX0_tellRowsApart_46 : decode cX0_tellRowsApart 46 = .ok (.iload 6, 2) := by decide +kernel
theorem dX0_tellRowsApart_48 : decode cX0_tellRowsApart 48 = .ok (.iload_n 3, 1) := by decide +kernel
theorem dX0_tellRowsApart_49 : decode cX0_tellRowsApart 49 = .ok (.if_icmp .ge 79, 3) := by decide +kernel
theorem dX0_tellRowsApart_52 : decode cX0_tellRowsApart 52 = .ok (.aload_n 2, 1) := by decide +kernel
theorem dX0_tellRowsApart_53 : decode cX0_tellRowsApart 53 = .ok (.iload 6, 2) := by decide +kernel
theorem dX0_tellRowsApart_55 : decode cX0_tellRowsApart 55 = .ok (.aload_n 1, 1) := by decide +kernel
theorem dX0_tellRowsApart_56 : decode cX0_tellRowsApart 56 = .ok (.getfield 68, 3) := by decide +kernel
theorem dX0_tellRowsApart_59 : decode cX0_tellRowsApart 59 = .ok (.imul, 1) := by decide +kernel
theorem dX0_tellRowsApart_60 : decode cX0_tellRowsApart 60 = .ok (.aload_n 1, 1) := by decide +kernel
theorem dX0_tellRowsApart_61 : decode cX0_tellRowsApart 61 = .ok (.getfield 68, 3) := by decide +kernel
theorem dX0_tellRowsApart_64 : decode cX0_tellRowsApart 64 = .ok (.aload_n 0, 1) := by decide +kernel
theorem dX0_tellRowsApart_65 : decode cX0_tellRowsApart 65 = .ok (.getfield 15, 3) := by decide +kernel
theorem dX0_tellRowsApart_68 : decode cX0_tellRowsApart 68 = .ok (.iconst 0, 1) := by decide +kernel
theorem dX0_tellRowsApart_69 : decode cX0_tellRowsApart 69 = .ok (.invokevirtual 71, 3) := by decide +kernel
theorem dX0_tellRowsApart_72 : decode cX0_tellRowsApart 72 = .ok (.iconst 0, 1) := by decide +kernel
theorem dX0_tellRowsApart_73 : decode cX0_tellRowsApart 73 = .ok (.istore 7, 2) := by decide +kernel
theorem dX0_tellRowsApart_75 : decode cX0_tellRowsApart 75 = .ok (.iload 7, 2) := by decide +kernel
theorem dX0_tellRowsApart_77 : decode cX0_tellRowsApart 77 = .ok (.aload_n 1, 1) := by decide +kernel
theorem dX0_tellRowsApart_78 : decode cX0_tellRowsApart 78 = .ok (.getfield 50, 3) := by decide +kernel
theorem dX0_tellRowsApart_81 : decode cX0_tellRowsApart 81 = .ok (.if_icmp .ge 38, 3) := by decide +kernel
theorem dX0_tellRowsApart_84 : decode cX0_tellRowsApart 84 = .ok (.aload_n 0, 1) := by decide +kernel
theorem dX0_tellRowsApart_85 : decode cX0_tellRowsApart 85 = .ok (.getfield 27, 3) := by decide +kernel
theorem dX0_tellRowsApart_88 : decode cX0_tellRowsApart 88 = .ok (.iload 7, 2) := by decide +kernel
theorem dX0_tellRowsApart_90 : decode cX0_tellRowsApart 90 = .ok (.dup2, 1) := by decide +kernel
theorem dX0_tellRowsApart_91 : decode cX0_tellRowsApart 91 = .ok (.iaload, 1) := by decide +kernel
theorem dX0_tellRowsApart_92 : decode cX0_tellRowsApart 92 = .ok (.aload_n 0, 1) := by decide +kernel
theorem dX0_tellRowsApart_93 : decode cX0_tellRowsApart 93 = .ok (.aload_n 1, 1) := by decide +kernel
theorem dX0_tellRowsApart_94 : decode cX0_tellRowsApart 94 = .ok (.iload 7, 2) := by decide +kernel
theorem dX0_tellRowsApart_96 : decode cX0_tellRowsApart 96 = .ok (.invokevirtual 77, 3) := by decide +kernel
theorem dX0_tellRowsApart_99 : decode cX0_tellRowsApart 99 = .ok (.iconst (-1), 1) := by decide +kernel
theorem dX0_tellRowsApart_100 : decode cX0_tellRowsApart 100 = .ok (.if_icmp .ne 7, 3) := by decide +kernel
theorem dX0_tellRowsApart_103 : decode cX0_tellRowsApart 103 = .ok (.iconst 0, 1) := by decide +kernel
theorem dX0_tellRowsApart_104 : decode cX0_tellRowsApart 104 = .ok (.goto 7, 3) := by decide +kernel
theorem dX0_tellRowsApart_107 : decode cX0_tellRowsApart 107 = .ok (.iconst 1, 1) := by decide +kernel
theorem dX0_tellRowsApart_108 : decode cX0_tellRowsApart 108 = .ok (.iload 4, 2) := by decide +kernel
theorem dX0_tellRowsApart_110 : decode cX0_tellRowsApart 110 = .ok (.ishl, 1) := by decide +kernel
theorem dX0_tellRowsApart_111 : decode cX0_tellRowsApart 111 = .ok (.ior, 1) := by decide +kernel
theorem dX0_tellRowsApart_112 : decode cX0_tellRowsApart 112 = .ok (.iastore, 1) := by decide +kernel
theorem dX0_tellRowsApart_113 : decode cX0_tellRowsApart 113 = .ok (.iinc 7 1, 3) := by decide +kernel
theorem dX0_tellRowsApart_116 : decode cX0_tellRowsApart 116 = .ok (.goto (-41), 3) := by decide +kernel
theorem dX0_tellRowsApart_119 : decode cX0_tellRowsApart 119 = .ok (.iinc 4 1, 3) := by decide +kernel
theorem dX0_tellRowsApart_122 : decode cX0_tellRowsApart 122 = .ok (.iinc 6 1, 3) := by decide +kernel
theorem dX0_tellRowsApart_125 : decode cX0_tellRowsApart 125 = .ok (.goto (-79), 3) := by decide +kernel
theorem dX0_tellRowsApart_128 : decode cX0_tellRowsApart 128 = .ok (.iinc 5 1, 3) := by decide +kernel
theorem dX0_tellRowsApart_131 : decode cX0_tellRowsApart 131 = .ok (.goto (-117), 3) := by decide +kernel
theorem dX0_tellRowsApart_134 : decode cX0_tellRowsApart 134 = .ok (.return_, 1) := by decide +kernel
theorem dX0_couplesTold_0 : decode cX0_couplesTold 0 = .ok (.iconst 0, 1) := by decide +kernel
theorem dX0_couplesTold_1 : decode cX0_couplesTold 1 = .ok (.istore_n 2, 1) := by decide +kernel
theorem dX0_couplesTold_2 : decode cX0_couplesTold 2 = .ok (.iconst 0, 1) := by decide +kernel
theorem dX0_couplesTold_3 : decode cX0_couplesTold 3 = .ok (.istore_n 3, 1) := by decide +kernel
theorem dX0_couplesTold_4 : decode cX0_couplesTold 4 = .ok (.iload_n 3, 1) := by decide +kernel
theorem dX0_couplesTold_5 : decode cX0_couplesTold 5 = .ok (.bipush 6, 2) := by decide +kernel
theorem dX0_couplesTold_7 : decode cX0_couplesTold 7 = .ok (.if_icmp .ge 31, 3) := by decide +kernel
theorem dX0_couplesTold_10 : decode cX0_couplesTold 10 = .ok (.iload_n 2, 1) := by decide +kernel
theorem dX0_couplesTold_11 : decode cX0_couplesTold 11 = .ok (.iload_n 1, 1) := by decide +kernel
theorem dX0_couplesTold_12 : decode cX0_couplesTold 12 = .ok (.iload_n 3, 1) := by decide +kernel
theorem dX0_couplesTold_13 : decode cX0_couplesTold 13 = .ok (.ishr, 1) := by decide +kernel
theorem dX0_couplesTold_14 : decode cX0_couplesTold 14 = .ok (.iconst 1, 1) := by decide +kernel
theorem dX0_couplesTold_15 : decode cX0_couplesTold 15 = .ok (.iand, 1) := by decide +kernel
theorem dX0_couplesTold_16 : decode cX0_couplesTold 16 = .ok (.iconst 1, 1) := by decide +kernel
theorem dX0_couplesTold_17 : decode cX0_couplesTold 17 = .ok (.if_icmp .ne 12, 3) := by decide +kernel
theorem dX0_couplesTold_20 : decode cX0_couplesTold 20 = .ok (.aload_n 0, 1) := by decide +kernel
theorem dX0_couplesTold_21 : decode cX0_couplesTold 21 = .ok (.getfield 27, 3) := by decide +kernel
theorem dX0_couplesTold_24 : decode cX0_couplesTold 24 = .ok (.iload_n 3, 1) := by decide +kernel
theorem dX0_couplesTold_25 : decode cX0_couplesTold 25 = .ok (.iaload, 1) := by decide +kernel
theorem dX0_couplesTold_26 : decode cX0_couplesTold 26 = .ok (.goto 4, 3) := by decide +kernel
theorem dX0_couplesTold_29 : decode cX0_couplesTold 29 = .ok (.iconst 0, 1) := by decide +kernel
theorem dX0_couplesTold_30 : decode cX0_couplesTold 30 = .ok (.ior, 1) := by decide +kernel
theorem dX0_couplesTold_31 : decode cX0_couplesTold 31 = .ok (.istore_n 2, 1) := by decide +kernel
theorem dX0_couplesTold_32 : decode cX0_couplesTold 32 = .ok (.iinc 3 1, 3) := by decide +kernel
theorem dX0_couplesTold_35 : decode cX0_couplesTold 35 = .ok (.goto (-31), 3) := by decide +kernel
theorem dX0_couplesTold_38 : decode cX0_couplesTold 38 = .ok (.iload_n 2, 1) := by decide +kernel
theorem dX0_couplesTold_39 : decode cX0_couplesTold 39 = .ok (.ireturn, 1) := by decide +kernel
theorem dX0_cellsUnlike_0 : decode cX0_cellsUnlike 0 = .ok (.iconst 0, 1) := by decide +kernel
theorem dX0_cellsUnlike_1 : decode cX0_cellsUnlike 1 = .ok (.istore_n 2, 1) := by decide +kernel
theorem dX0_cellsUnlike_2 : decode cX0_cellsUnlike 2 = .ok (.iconst 0, 1) := by decide +kernel
theorem dX0_cellsUnlike_3 : decode cX0_cellsUnlike 3 = .ok (.istore_n 3, 1) := by decide +kernel
theorem dX0_cellsUnlike_4 : decode cX0_cellsUnlike 4 = .ok (.iload_n 3, 1) := by decide +kernel
theorem dX0_cellsUnlike_5 : decode cX0_cellsUnlike 5 = .ok (.aload_n 1, 1) := by decide +kernel
theorem dX0_cellsUnlike_6 : decode cX0_cellsUnlike 6 = .ok (.getfield 68, 3) := by decide +kernel
theorem dX0_cellsUnlike_9 : decode cX0_cellsUnlike 9 = .ok (.if_icmp .ge 32, 3) := by decide +kernel
theorem dX0_cellsUnlike_12 : decode cX0_cellsUnlike 12 = .ok (.iload_n 2, 1) := by decide +kernel
theorem dX0_cellsUnlike_13 : decode cX0_cellsUnlike 13 = .ok (.aload_n 0, 1) := by decide +kernel
theorem dX0_cellsUnlike_14 : decode cX0_cellsUnlike 14 = .ok (.getfield 9, 3) := by decide +kernel
theorem dX0_cellsUnlike_17 : decode cX0_cellsUnlike 17 = .ok (.iload_n 3, 1) := by decide +kernel
theorem dX0_cellsUnlike_18 : decode cX0_cellsUnlike 18 = .ok (.iaload, 1) := by decide +kernel
theorem dX0_cellsUnlike_19 : decode cX0_cellsUnlike 19 = .ok (.aload_n 0, 1) := by decide +kernel
theorem dX0_cellsUnlike_20 : decode cX0_cellsUnlike 20 = .ok (.getfield 15, 3) := by decide +kernel
theorem dX0_cellsUnlike_23 : decode cX0_cellsUnlike 23 = .ok (.iload_n 3, 1) := by decide +kernel
theorem dX0_cellsUnlike_24 : decode cX0_cellsUnlike 24 = .ok (.iaload, 1) := by decide +kernel
theorem dX0_cellsUnlike_25 : decode cX0_cellsUnlike 25 = .ok (.if_icmp .eq 7, 3) := by decide +kernel
theorem dX0_cellsUnlike_28 : decode cX0_cellsUnlike 28 = .ok (.iconst 1, 1) := by decide +kernel
theorem dX0_cellsUnlike_29 : decode cX0_cellsUnlike 29 = .ok (.goto 4, 3) := by decide +kernel
theorem dX0_cellsUnlike_32 : decode cX0_cellsUnlike 32 = .ok (.iconst 0, 1) := by decide +kernel
theorem dX0_cellsUnlike_33 : decode cX0_cellsUnlike 33 = .ok (.iadd, 1) := by decide +kernel
theorem dX0_cellsUnlike_34 : decode cX0_cellsUnlike 34 = .ok (.istore_n 2, 1) := by decide +kernel
theorem dX0_cellsUnlike_35 : decode cX0_cellsUnlike 35 = .ok (.iinc 3 1, 3) := by decide +kernel
theorem dX0_cellsUnlike_38 : decode cX0_cellsUnlike 38 = .ok (.goto (-34), 3) := by decide +kernel
theorem dX0_cellsUnlike_41 : decode cX0_cellsUnlike 41 = .ok (.iload_n 2, 1) := by decide +kernel
theorem dX0_cellsUnlike_42 : decode cX0_cellsUnlike 42 = .ok (.ireturn, 1) := by decide +kernel
theorem dX0_looksAlike_0 : decode cX0_looksAlike 0 = .ok (.iconst 0, 1) := by decide +kernel
theorem dX0_looksAlike_1 : decode cX0_looksAlike 1 = .ok (.istore_n 2, 1) := by decide +kernel
theorem dX0_looksAlike_2 : decode cX0_looksAlike 2 = .ok (.iload_n 2, 1) := by decide +kernel
theorem dX0_looksAlike_3 : decode cX0_looksAlike 3 = .ok (.aload_n 1, 1) := by decide +kernel
theorem dX0_looksAlike_4 : decode cX0_looksAlike 4 = .ok (.getfield 50, 3) := by decide +kernel
theorem dX0_looksAlike_7 : decode cX0_looksAlike 7 = .ok (.if_icmp .ge 21, 3) := by decide +kernel
theorem dX0_looksAlike_10 : decode cX0_looksAlike 10 = .ok (.aload_n 0, 1) := by decide +kernel
theorem dX0_looksAlike_11 : decode cX0_looksAlike 11 = .ok (.aload_n 1, 1) := by decide +kernel
theorem dX0_looksAlike_12 : decode cX0_looksAlike 12 = .ok (.iload_n 2, 1) := by decide +kernel
theorem dX0_looksAlike_13 : decode cX0_looksAlike 13 = .ok (.invokevirtual 77, 3) := by decide +kernel
theorem dX0_looksAlike_16 : decode cX0_looksAlike 16 = .ok (.iconst (-1), 1) := by decide +kernel
theorem dX0_looksAlike_17 : decode cX0_looksAlike 17 = .ok (.if_icmp .eq 5, 3) := by decide +kernel
theorem dX0_looksAlike_20 : decode cX0_looksAlike 20 = .ok (.iconst 0, 1) := by decide +kernel
theorem dX0_looksAlike_21 : decode cX0_looksAlike 21 = .ok (.ireturn, 1) := by decide +kernel
theorem dX0_looksAlike_22 : decode cX0_looksAlike 22 = .ok (.iinc 2 1, 3) := by decide +kernel
theorem dX0_looksAlike_25 : decode cX0_looksAlike 25 = .ok (.goto (-23), 3) := by decide +kernel
theorem dX0_looksAlike_28 : decode cX0_looksAlike 28 = .ok (.iconst 1, 1) := by decide +kernel
theorem dX0_looksAlike_29 : decode cX0_looksAlike 29 = .ok (.ireturn, 1) := by decide +kernel
theorem dX0_findOrder_0 : decode cX0_findOrder 0 = .ok (.aload_n 0, 1) := by decide +kernel
theorem dX0_findOrder_1 : decode cX0_findOrder 1 = .ok (.aload_n 1, 1) := by decide +kernel
theorem dX0_findOrder_2 : decode cX0_findOrder 2 = .ok (.invokevirtual 81, 3) := by decide +kernel
theorem dX0_findOrder_5 : decode cX0_findOrder 5 = .ok (.bipush 12, 2) := by decide +kernel
theorem dX0_findOrder_7 : decode cX0_findOrder 7 = .ok (.invokestatic 85, 3) := by decide +kernel
theorem dX0_findOrder_10 : decode cX0_findOrder 10 = .ok (.istore_n 2, 1) := by decide +kernel
theorem dX0_findOrder_11 : decode cX0_findOrder 11 = .ok (.aload_n 0, 1) := by decide +kernel
theorem dX0_findOrder_12 : decode cX0_findOrder 12 = .ok (.getfield 15, 3) := by decide +kernel
theorem dX0_findOrder_15 : decode cX0_findOrder 15 = .ok (.iconst 0, 1) := by decide +kernel
theorem dX0_findOrder_16 : decode cX0_findOrder 16 = .ok (.aload_n 0, 1) := by decide +kernel
theorem dX0_findOrder_17 : decode cX0_findOrder 17 = .ok (.getfield 30, 3) := by decide +kernel
theorem dX0_findOrder_20 : decode cX0_findOrder 20 = .ok (.iconst 0, 1) := by decide +kernel
theorem dX0_findOrder_21 : decode cX0_findOrder 21 = .ok (.aload_n 1, 1) := by decide +kernel
theorem dX0_findOrder_22 : decode cX0_findOrder 22 = .ok (.getfield 68, 3) := by decide +kernel
theorem dX0_findOrder_25 : decode cX0_findOrder 25 = .ok (.invokestatic 91, 3) := by decide +kernel
theorem dX0_findOrder_28 : decode cX0_findOrder 28 = .ok (.aload_n 0, 1) := by decide +kernel
theorem dX0_findOrder_29 : decode cX0_findOrder 29 = .ok (.getfield 9, 3) := by decide +kernel
theorem dX0_findOrder_32 : decode cX0_findOrder 32 = .ok (.iconst 0, 1) := by decide +kernel
theorem dX0_findOrder_33 : decode cX0_findOrder 33 = .ok (.aload_n 0, 1) := by decide +kernel
theorem dX0_findOrder_34 : decode cX0_findOrder 34 = .ok (.getfield 15, 3) := by decide +kernel
theorem dX0_findOrder_37 : decode cX0_findOrder 37 = .ok (.iconst 0, 1) := by decide +kernel
theorem dX0_findOrder_38 : decode cX0_findOrder 38 = .ok (.aload_n 1, 1) := by decide +kernel
theorem dX0_findOrder_39 : decode cX0_findOrder 39 = .ok (.getfield 68, 3) := by decide +kernel
theorem dX0_findOrder_42 : decode cX0_findOrder 42 = .ok (.invokestatic 91, 3) := by decide +kernel
theorem dX0_findOrder_45 : decode cX0_findOrder 45 = .ok (.aload_n 0, 1) := by decide +kernel
theorem dX0_findOrder_46 : decode cX0_findOrder 46 = .ok (.iconst 0, 1) := by decide +kernel
theorem dX0_findOrder_47 : decode cX0_findOrder 47 = .ok (.putfield 97, 3) := by decide +kernel
theorem dX0_findOrder_50 : decode cX0_findOrder 50 = .ok (.iconst 0, 1) := by decide +kernel
theorem dX0_findOrder_51 : decode cX0_findOrder 51 = .ok (.istore_n 3, 1) := by decide +kernel
theorem dX0_findOrder_52 : decode cX0_findOrder 52 = .ok (.iload_n 3, 1) := by decide +kernel
theorem dX0_findOrder_53 : decode cX0_findOrder 53 = .ok (.iload_n 2, 1) := by decide +kernel
theorem dX0_findOrder_54 : decode cX0_findOrder 54 = .ok (.if_icmp .ge 44, 3) := by decide +kernel
theorem dX0_findOrder_57 : decode cX0_findOrder 57 = .ok (.aload_n 0, 1) := by decide +kernel
theorem dX0_findOrder_58 : decode cX0_findOrder 58 = .ok (.aload_n 1, 1) := by decide +kernel
theorem dX0_findOrder_59 : decode cX0_findOrder 59 = .ok (.invokevirtual 100, 3) := by decide +kernel
theorem dX0_findOrder_62 : decode cX0_findOrder 62 = .ok (.istore 4, 2) := by decide +kernel
theorem dX0_findOrder_64 : decode cX0_findOrder 64 = .ok (.iload 4, 2) := by decide +kernel
theorem dX0_findOrder_66 : decode cX0_findOrder 66 = .ok (.iconst (-1), 1) := by decide +kernel
theorem dX0_findOrder_67 : decode cX0_findOrder 67 = .ok (.if_icmp .ne 4, 3) := by decide +kernel
theorem dX0_findOrder_70 : decode cX0_findOrder 70 = .ok (.return_, 1) := by decide +kernel
theorem dX0_findOrder_71 : decode cX0_findOrder 71 = .ok (.aload_n 0, 1) := by decide +kernel
theorem dX0_findOrder_72 : decode cX0_findOrder 72 = .ok (.getfield 18, 3) := by decide +kernel
theorem dX0_findOrder_75 : decode cX0_findOrder 75 = .ok (.aload_n 0, 1) := by decide +kernel
theorem dX0_findOrder_76 : decode cX0_findOrder 76 = .ok (.getfield 97, 3) := by decide +kernel
theorem dX0_findOrder_79 : decode cX0_findOrder 79 = .ok (.iload 4, 2) := by decide +kernel
theorem dX0_findOrder_81 : decode cX0_findOrder 81 = .ok (.iastore, 1) := by decide +kernel
theorem dX0_findOrder_82 : decode cX0_findOrder 82 = .ok (.aload_n 0, 1) := by decide +kernel
theorem dX0_findOrder_83 : decode cX0_findOrder 83 = .ok (.dup, 1) := by decide +kernel
theorem dX0_findOrder_84 : decode cX0_findOrder 84 = .ok (.getfield 97, 3) := by decide +kernel
theorem dX0_findOrder_87 : decode cX0_findOrder 87 = .ok (.iconst 1, 1) := by decide +kernel
theorem dX0_findOrder_88 : decode cX0_findOrder 88 = .ok (.iadd, 1) := by decide +kernel
theorem dX0_findOrder_89 : decode cX0_findOrder 89 = .ok (.putfield 97, 3) := by decide +kernel
theorem dX0_findOrder_92 : decode cX0_findOrder 92 = .ok (.iinc 3 1, 3) := by decide +kernel
theorem dX0_findOrder_95 : decode cX0_findOrder 95 = .ok (.goto (-43), 3) := by decide +kernel
theorem dX0_findOrder_98 : decode cX0_findOrder 98 = .ok (.return_, 1) := by decide +kernel
theorem dX0_changeFirst_0 : decode cX0_changeFirst 0 = .ok (.iconst 0, 1) := by decide +kernel
theorem dX0_changeFirst_1 : decode cX0_changeFirst 1 = .ok (.istore_n 2, 1) := by decide +kernel
theorem dX0_changeFirst_2 : decode cX0_changeFirst 2 = .ok (.iload_n 2, 1) := by decide +kernel
theorem dX0_changeFirst_3 : decode cX0_changeFirst 3 = .ok (.aload_n 1, 1) := by decide +kernel
theorem dX0_changeFirst_4 : decode cX0_changeFirst 4 = .ok (.getfield 68, 3) := by decide +kernel
theorem dX0_changeFirst_7 : decode cX0_changeFirst 7 = .ok (.if_icmp .ge 55, 3) := by decide +kernel
theorem dX0_changeFirst_10 : decode cX0_changeFirst 10 = .ok (.aload_n 0, 1) := by decide +kernel
theorem dX0_changeFirst_11 : decode cX0_changeFirst 11 = .ok (.getfield 15, 3) := by decide +kernel
theorem dX0_changeFirst_14 : decode cX0_changeFirst 14 = .ok (.iload_n 2, 1) := by decide +kernel
theorem dX0_changeFirst_15 : decode cX0_changeFirst 15 = .ok (.iaload, 1) := by decide +kernel
theorem dX0_changeFirst_16 : decode cX0_changeFirst 16 = .ok (.istore_n 3, 1) := by decide +kernel
theorem dX0_changeFirst_17 : decode cX0_changeFirst 17 = .ok (.iload_n 3, 1) := by decide +kernel
theorem dX0_changeFirst_18 : decode cX0_changeFirst 18 = .ok (.aload_n 0, 1) := by decide +kernel
theorem dX0_changeFirst_19 : decode cX0_changeFirst 19 = .ok (.getfield 30, 3) := by decide +kernel
theorem dX0_changeFirst_22 : decode cX0_changeFirst 22 = .ok (.iload_n 2, 1) := by decide +kernel
theorem dX0_changeFirst_23 : decode cX0_changeFirst 23 = .ok (.iaload, 1) := by decide +kernel
theorem dX0_changeFirst_24 : decode cX0_changeFirst 24 = .ok (.if_icmp .eq 32, 3) := by decide +kernel
theorem dX0_changeFirst_27 : decode cX0_changeFirst 27 = .ok (.aload_n 0, 1) := by decide +kernel
theorem dX0_changeFirst_28 : decode cX0_changeFirst 28 = .ok (.getfield 15, 3) := by decide +kernel
theorem dX0_changeFirst_31 : decode cX0_changeFirst 31 = .ok (.iload_n 2, 1) := by decide +kernel
theorem dX0_changeFirst_32 : decode cX0_changeFirst 32 = .ok (.aload_n 0, 1) := by decide +kernel
theorem dX0_changeFirst_33 : decode cX0_changeFirst 33 = .ok (.getfield 30, 3) := by decide +kernel
theorem dX0_changeFirst_36 : decode cX0_changeFirst 36 = .ok (.iload_n 2, 1) := by decide +kernel
theorem dX0_changeFirst_37 : decode cX0_changeFirst 37 = .ok (.iaload, 1) := by decide +kernel
theorem dX0_changeFirst_38 : decode cX0_changeFirst 38 = .ok (.iastore, 1) := by decide +kernel
theorem dX0_changeFirst_39 : decode cX0_changeFirst 39 = .ok (.aload_n 0, 1) := by decide +kernel
theorem dX0_changeFirst_40 : decode cX0_changeFirst 40 = .ok (.aload_n 1, 1) := by decide +kernel
theorem dX0_changeFirst_41 : decode cX0_changeFirst 41 = .ok (.invokevirtual 103, 3) := by decide +kernel
theorem dX0_changeFirst_44 : decode cX0_changeFirst 44 = .ok (.ifCond .eq 5, 3) := by decide +kernel
theorem dX0_changeFirst_47 : decode cX0_changeFirst 47 = .ok (.iload_n 2, 1) := by decide +kernel
theorem dX0_changeFirst_48 : decode cX0_changeFirst 48 = .ok (.ireturn, 1) := by decide +kernel
theorem dX0_changeFirst_49 : decode cX0_changeFirst 49 = .ok (.aload_n 0, 1) := by decide +kernel
theorem dX0_changeFirst_50 : decode cX0_changeFirst 50 = .ok (.getfield 15, 3) := by decide +kernel
theorem dX0_changeFirst_53 : decode cX0_changeFirst 53 = .ok (.iload_n 2, 1) := by decide +kernel
theorem dX0_changeFirst_54 : decode cX0_changeFirst 54 = .ok (.iload_n 3, 1) := by decide +kernel
theorem dX0_changeFirst_55 : decode cX0_changeFirst 55 = .ok (.iastore, 1) := by decide +kernel
theorem dX0_changeFirst_56 : decode cX0_changeFirst 56 = .ok (.iinc 2 1, 3) := by decide +kernel
theorem dX0_changeFirst_59 : decode cX0_changeFirst 59 = .ok (.goto (-57), 3) := by decide +kernel
theorem dX0_changeFirst_62 : decode cX0_changeFirst 62 = .ok (.iconst (-1), 1) := by decide +kernel
theorem dX0_changeFirst_63 : decode cX0_changeFirst 63 = .ok (.ireturn, 1) := by decide +kernel
theorem dX1_init_0 : decode cX1_init 0 = .ok (.aload_n 0, 1) := by decide +kernel
theorem dX1_init_1 : decode cX1_init 1 = .ok (.invokespecial 3, 3) := by decide +kernel
theorem dX1_init_4 : decode cX1_init 4 = .ok (.aload_n 0, 1) := by decide +kernel
theorem dX1_init_5 : decode cX1_init 5 = .ok (.bipush 54, 2) := by decide +kernel
theorem dX1_init_7 : decode cX1_init 7 = .ok (.newarray .int, 2) := by decide +kernel
theorem dX1_init_9 : decode cX1_init 9 = .ok (.putfield 9, 3) := by decide +kernel
theorem dX1_init_12 : decode cX1_init 12 = .ok (.aload_n 0, 1) := by decide +kernel
theorem dX1_init_13 : decode cX1_init 13 = .ok (.bipush 54, 2) := by decide +kernel
theorem dX1_init_15 : decode cX1_init 15 = .ok (.newarray .int, 2) := by decide +kernel
theorem dX1_init_17 : decode cX1_init 17 = .ok (.putfield 15, 3) := by decide +kernel
theorem dX1_init_20 : decode cX1_init 20 = .ok (.aload_n 0, 1) := by decide +kernel
theorem dX1_init_21 : decode cX1_init 21 = .ok (.iconst 4, 1) := by decide +kernel
theorem dX1_init_22 : decode cX1_init 22 = .ok (.newarray .long, 2) := by decide +kernel
theorem dX1_init_24 : decode cX1_init 24 = .ok (.putfield 18, 3) := by decide +kernel
theorem dX1_init_27 : decode cX1_init 27 = .ok (.aload_n 0, 1) := by decide +kernel
theorem dX1_init_28 : decode cX1_init 28 = .ok (.bipush 54, 2) := by decide +kernel
theorem dX1_init_30 : decode cX1_init 30 = .ok (.newarray .int, 2) := by decide +kernel
theorem dX1_init_32 : decode cX1_init 32 = .ok (.putfield 22, 3) := by decide +kernel
theorem dX1_init_35 : decode cX1_init 35 = .ok (.aload_n 0, 1) := by decide +kernel
theorem dX1_init_36 : decode cX1_init 36 = .ok (.bipush 25, 2) := by decide +kernel
theorem dX1_init_38 : decode cX1_init 38 = .ok (.newarray .int, 2) := by decide +kernel
theorem dX1_init_40 : decode cX1_init 40 = .ok (.putfield 25, 3) := by decide +kernel
theorem dX1_init_43 : decode cX1_init 43 = .ok (.aload_n 0, 1) := by decide +kernel
theorem dX1_init_44 : decode cX1_init 44 = .ok (.sipush 2048, 3) := by decide +kernel
theorem dX1_init_47 : decode cX1_init 47 = .ok (.newarray .long, 2) := by decide +kernel
theorem dX1_init_49 : decode cX1_init 49 = .ok (.putfield 28, 3) := by decide +kernel
theorem dX1_init_52 : decode cX1_init 52 = .ok (.return_, 1) := by decide +kernel
theorem dX1_begin_0 : decode cX1_begin 0 = .ok (.aload_n 0, 1) := by decide +kernel
theorem dX1_begin_1 : decode cX1_begin 1 = .ok (.iconst 0, 1) := by decide +kernel
theorem dX1_begin_2 : decode cX1_begin 2 = .ok (.putfield 31, 3) := by decide +kernel
theorem dX1_begin_5 : decode cX1_begin 5 = .ok (.aload_n 0, 1) := by decide +kernel
theorem dX1_begin_6 : decode cX1_begin 6 = .ok (.iconst 0, 1) := by decide +kernel
theorem dX1_begin_7 : decode cX1_begin 7 = .ok (.putfield 35, 3) := by decide +kernel
theorem dX1_begin_10 : decode cX1_begin 10 = .ok (.return_, 1) := by decide +kernel
theorem dX1_require_0 : decode cX1_require 0 = .ok (.iconst 0, 1) := by decide +kernel
theorem dX1_require_1 : decode cX1_require 1 = .ok (.istore_n 3, 1) := by decide +kernel
theorem dX1_require_2 : decode cX1_require 2 = .ok (.iload_n 3, 1) := by decide +kernel
theorem dX1_require_3 : decode cX1_require 3 = .ok (.aload_n 0, 1) := by decide +kernel
theorem dX1_require_4 : decode cX1_require 4 = .ok (.getfield 31, 3) := by decide +kernel
theorem dX1_require_7 : decode cX1_require 7 = .ok (.if_icmp .ge 27, 3) := by decide +kernel
theorem dX1_require_10 : decode cX1_require 10 = .ok (.aload_n 0, 1) := by decide +kernel
theorem dX1_require_11 : decode cX1_require 11 = .ok (.getfield 9, 3) := by decide +kernel
theorem dX1_require_14 : decode cX1_require 14 = .ok (.iload_n 3, 1) := by decide +kernel
theorem dX1_require_15 : decode cX1_require 15 = .ok (.iaload, 1) := by decide +kernel
theorem dX1_require_16 : decode cX1_require 16 = .ok (.iload_n 1, 1) := by decide +kernel
theorem dX1_require_17 : decode cX1_require 17 = .ok (.iand, 1) := by decide +kernel
theorem dX1_require_18 : decode cX1_require 18 = .ok (.aload_n 0, 1) := by decide +kernel
theorem dX1_require_19 : decode cX1_require 19 = .ok (.getfield 9, 3) := by decide +kernel
theorem dX1_require_22 : decode cX1_require 22 = .ok (.iload_n 3, 1) := by decide +kernel
theorem dX1_require_23 : decode cX1_require 23 = .ok (.iaload, 1) := by decide +kernel
theorem dX1_require_24 : decode cX1_require 24 = .ok (.if_icmp .ne 4, 3) := by decide +kernel
theorem dX1_require_27 : decode cX1_require 27 = .ok (.return_, 1) := by decide +kernel
theorem dX1_require_28 : decode cX1_require 28 = .ok (.iinc 3 1, 3) := by decide +kernel
theorem dX1_require_31 : decode cX1_require 31 = .ok (.goto (-29), 3) := by decide +kernel
theorem dX1_require_34 : decode cX1_require 34 = .ok (.iconst 0, 1) := by decide +kernel
theorem dX1_require_35 : decode cX1_require 35 = .ok (.istore_n 3, 1) := by decide +kernel
theorem dX1_require_36 : decode cX1_require 36 = .ok (.iconst 0, 1) := by decide +kernel
theorem dX1_require_37 : decode cX1_require 37 = .ok (.istore 4, 2) := by decide +kernel
theorem dX1_require_39 : decode cX1_require 39 = .ok (.iload 4, 2) := by decide +kernel
theorem dX1_require_41 : decode cX1_require 41 = .ok (.aload_n 0, 1) := by decide +kernel
theorem dX1_require_42 : decode cX1_require 42 = .ok (.getfield 31, 3) := by decide +kernel
theorem dX1_require_45 : decode cX1_require 45 = .ok (.if_icmp .ge 32, 3) := by decide +kernel
theorem dX1_require_48 : decode cX1_require 48 = .ok (.aload_n 0, 1) := by decide +kernel
theorem dX1_require_49 : decode cX1_require 49 = .ok (.getfield 9, 3) := by decide +kernel
theorem dX1_require_52 : decode cX1_require 52 = .ok (.iload 4, 2) := by decide +kernel
theorem dX1_require_54 : decode cX1_require 54 = .ok (.iaload, 1) := by decide +kernel
theorem dX1_require_55 : decode cX1_require 55 = .ok (.iload_n 1, 1) := by decide +kernel
theorem dX1_require_56 : decode cX1_require 56 = .ok (.iand, 1) := by decide +kernel
theorem dX1_require_57 : decode cX1_require 57 = .ok (.iload_n 1, 1) := by decide +kernel
theorem dX1_require_58 : decode cX1_require 58 = .ok (.if_icmp .eq 13, 3) := by decide +kernel
theorem dX1_require_61 : decode cX1_require 61 = .ok (.aload_n 0, 1) := by decide +kernel
theorem dX1_require_62 : decode cX1_require 62 = .ok (.iload 4, 2) := by decide +kernel
theorem dX1_require_64 : decode cX1_require 64 = .ok (.iload_n 3, 1) := by decide +kernel
theorem dX1_require_65 : decode cX1_require 65 = .ok (.invokevirtual 38, 3) := by decide +kernel
theorem dX1_require_68 : decode cX1_require 68 = .ok (.iinc 3 1, 3) := by decide +kernel
theorem dX1_require_71 : decode cX1_require 71 = .ok (.iinc 4 1, 3) := by decide +kernel
theorem dX1_require_74 : decode cX1_require 74 = .ok (.goto (-35), 3) := by decide +kernel
theorem dX1_require_77 : decode cX1_require 77 = .ok (.aload_n 0, 1) := by decide +kernel
theorem dX1_require_78 : decode cX1_require 78 = .ok (.iload_n 3, 1) := by decide +kernel
theorem dX1_require_79 : decode cX1_require 79 = .ok (.putfield 31, 3) := by decide +kernel
theorem dX1_require_82 : decode cX1_require 82 = .ok (.aload_n 0, 1) := by decide +kernel
theorem dX1_require_83 : decode cX1_require 83 = .ok (.getfield 31, 3) := by decide +kernel
theorem dX1_require_86 : decode cX1_require 86 = .ok (.bipush 54, 2) := by decide +kernel
theorem dX1_require_88 : decode cX1_require 88 = .ok (.if_icmp .ge 33, 3) := by decide +kernel
theorem dX1_require_91 : decode cX1_require 91 = .ok (.aload_n 0, 1) := by decide +kernel
theorem dX1_require_92 : decode cX1_require 92 = .ok (.getfield 9, 3) := by decide +kernel
theorem dX1_require_95 : decode cX1_require 95 = .ok (.aload_n 0, 1) := by decide +kernel
theorem dX1_require_96 : decode cX1_require 96 = .ok (.getfield 31, 3) := by decide +kernel
theorem dX1_require_99 : decode cX1_require 99 = .ok (.iload_n 1, 1) := by decide +kernel
theorem dX1_require_100 : decode cX1_require 100 = .ok (.iastore, 1) := by decide +kernel
theorem dX1_require_101 : decode cX1_require 101 = .ok (.aload_n 0, 1) := by decide +kernel
theorem dX1_require_102 : decode cX1_require 102 = .ok (.getfield 15, 3) := by decide +kernel
theorem dX1_require_105 : decode cX1_require 105 = .ok (.aload_n 0, 1) := by decide +kernel
theorem dX1_require_106 : decode cX1_require 106 = .ok (.getfield 31, 3) := by decide +kernel
theorem dX1_require_109 : decode cX1_require 109 = .ok (.iload_n 2, 1) := by decide +kernel
theorem dX1_require_110 : decode cX1_require 110 = .ok (.iastore, 1) := by decide +kernel
theorem dX1_require_111 : decode cX1_require 111 = .ok (.aload_n 0, 1) := by decide +kernel
theorem dX1_require_112 : decode cX1_require 112 = .ok (.dup, 1) := by decide +kernel
theorem dX1_require_113 : decode cX1_require 113 = .ok (.getfield 31, 3) := by decide +kernel
theorem dX1_require_116 : decode cX1_require 116 = .ok (.iconst 1, 1) := by decide +kernel
theorem dX1_require_117 : decode cX1_require 117 = .ok (.iadd, 1) := by decide +kernel
theorem dX1_require_118 : decode cX1_require 118 = .ok (.putfield 31, 3) := by decide +kernel
theorem dX1_require_121 : decode cX1_require 121 = .ok (.return_, 1) := by decide +kernel
theorem dX1_move_0 : decode cX1_move 0 = .ok (.aload_n 0, 1) := by decide +kernel
theorem dX1_move_1 : decode cX1_move 1 = .ok (.getfield 9, 3) := by decide +kernel
theorem dX1_move_4 : decode cX1_move 4 = .ok (.iload_n 2, 1) := by decide +kernel
theorem dX1_move_5 : decode cX1_move 5 = .ok (.aload_n 0, 1) := by decide +kernel
theorem dX1_move_6 : decode cX1_move 6 = .ok (.getfield 9, 3) := by decide +kernel
theorem dX1_move_9 : decode cX1_move 9 = .ok (.iload_n 1, 1) := by decide +kernel
theorem dX1_move_10 : decode cX1_move 10 = .ok (.iaload, 1) := by decide +kernel
theorem dX1_move_11 : decode cX1_move 11 = .ok (.iastore, 1) := by decide +kernel
theorem dX1_move_12 : decode cX1_move 12 = .ok (.aload_n 0, 1) := by decide +kernel
theorem dX1_move_13 : decode cX1_move 13 = .ok (.getfield 15, 3) := by decide +kernel
theorem dX1_move_16 : decode cX1_move 16 = .ok (.iload_n 2, 1) := by decide +kernel
theorem dX1_move_17 : decode cX1_move 17 = .ok (.aload_n 0, 1) := by decide +kernel
theorem dX1_move_18 : decode cX1_move 18 = .ok (.getfield 15, 3) := by decide +kernel
theorem dX1_move_21 : decode cX1_move 21 = .ok (.iload_n 1, 1) := by decide +kernel
theorem dX1_move_22 : decode cX1_move 22 = .ok (.iaload, 1) := by decide +kernel
theorem dX1_move_23 : decode cX1_move 23 = .ok (.iastore, 1) := by decide +kernel
theorem dX1_move_24 : decode cX1_move 24 = .ok (.return_, 1) := by decide +kernel
theorem dX1_findForced_0 : decode cX1_findForced 0 = .ok (.iconst 0, 1) := by decide +kernel
theorem dX1_findForced_1 : decode cX1_findForced 1 = .ok (.istore_n 1, 1) := by decide +kernel
theorem dX1_findForced_2 : decode cX1_findForced 2 = .ok (.iconst 0, 1) := by decide +kernel
theorem dX1_findForced_3 : decode cX1_findForced 3 = .ok (.istore_n 2, 1) := by decide +kernel
theorem dX1_findForced_4 : decode cX1_findForced 4 = .ok (.iload_n 2, 1) := by decide +kernel
theorem dX1_findForced_5 : decode cX1_findForced 5 = .ok (.aload_n 0, 1) := by decide +kernel
theorem dX1_findForced_6 : decode cX1_findForced 6 = .ok (.getfield 31, 3) := by decide +kernel
theorem dX1_findForced_9 : decode cX1_findForced 9 = .ok (.if_icmp .ge 49, 3) := by decide +kernel
theorem dX1_findForced_12 : decode cX1_findForced 12 = .ok (.aload_n 0, 1) := by decide +kernel
theorem dX1_findForced_13 : decode cX1_findForced 13 = .ok (.getfield 9, 3) := by decide +kernel
theorem dX1_findForced_16 : decode cX1_findForced 16 = .ok (.iload_n 2, 1) := by decide +kernel
theorem dX1_findForced_17 : decode cX1_findForced 17 = .ok (.iaload, 1) := by decide +kernel
theorem dX1_findForced_18 : decode cX1_findForced 18 = .ok (.invokestatic 42, 3) := by decide +kernel
theorem dX1_findForced_21 : decode cX1_findForced 21 = .ok (.iconst 1, 1) := by decide +kernel
theorem dX1_findForced_22 : decode cX1_findForced 22 = .ok (.if_icmp .ne 21, 3) := by decide +kernel
theorem dX1_findForced_25 : decode cX1_findForced 25 = .ok (.aload_n 0, 1) := by decide +kernel
theorem dX1_findForced_26 : decode cX1_findForced 26 = .ok (.dup, 1) := by decide +kernel
theorem dX1_findForced_27 : decode cX1_findForced 27 = .ok (.getfield 35, 3) := by decide +kernel
theorem dX1_findForced_30 : decode cX1_findForced 30 = .ok (.aload_n 0, 1) := by decide +kernel
theorem dX1_findForced_31 : decode cX1_findForced 31 = .ok (.getfield 9, 3) := by decide +kernel
theorem dX1_findForced_34 : decode cX1_findForced 34 = .ok (.iload_n 2, 1) := by decide +kernel
theorem dX1_findForced_35 : decode cX1_findForced 35 = .ok (.iaload, 1) := by decide +kernel
theorem dX1_findForced_36 : decode cX1_findForced 36 = .ok (.ior, 1) := by decide +kernel
theorem dX1_findForced_37 : decode cX1_findForced 37 = .ok (.putfield 35, 3) := by decide +kernel
theorem dX1_findForced_40 : decode cX1_findForced 40 = .ok (.goto 12, 3) := by decide +kernel
theorem dX1_findForced_43 : decode cX1_findForced 43 = .ok (.aload_n 0, 1) := by decide +kernel
theorem dX1_findForced_44 : decode cX1_findForced 44 = .ok (.iload_n 2, 1) := by decide +kernel
theorem dX1_findForced_45 : decode cX1_findForced 45 = .ok (.iload_n 1, 1) := by decide +kernel
theorem dX1_findForced_46 : decode cX1_findForced 46 = .ok (.invokevirtual 38, 3) := by decide +kernel
theorem dX1_findForced_49 : decode cX1_findForced 49 = .ok (.iinc 1 1, 3) := by decide +kernel
theorem dX1_findForced_52 : decode cX1_findForced 52 = .ok (.iinc 2 1, 3) := by decide +kernel
theorem dX1_findForced_55 : decode cX1_findForced 55 = .ok (.goto (-51), 3) := by decide +kernel
theorem dX1_findForced_58 : decode cX1_findForced 58 = .ok (.aload_n 0, 1) := by decide +kernel
theorem dX1_findForced_59 : decode cX1_findForced 59 = .ok (.iload_n 1, 1) := by decide +kernel
theorem dX1_findForced_60 : decode cX1_findForced 60 = .ok (.putfield 31, 3) := by decide +kernel
theorem dX1_findForced_63 : decode cX1_findForced 63 = .ok (.return_, 1) := by decide +kernel
theorem dX1_leastWeight_0 : decode cX1_leastWeight 0 = .ok (.lconst 0, 1) := by decide +kernel
theorem dX1_leastWeight_1 : decode cX1_leastWeight 1 = .ok (.lstore_n 2, 1) := by decide +kernel
theorem dX1_leastWeight_2 : decode cX1_leastWeight 2 = .ok (.iconst 0, 1) := by decide +kernel
theorem dX1_leastWeight_3 : decode cX1_leastWeight 3 = .ok (.istore 4, 2) := by decide +kernel
theorem dX1_leastWeight_5 : decode cX1_leastWeight 5 = .ok (.iload 4, 2) := by decide +kernel
theorem dX1_leastWeight_7 : decode cX1_leastWeight 7 = .ok (.bipush 25, 2) := by decide +kernel
theorem dX1_leastWeight_9 : decode cX1_leastWeight 9 = .ok (.if_icmp .ge 33, 3) := by decide +kernel
theorem dX1_leastWeight_12 : decode cX1_leastWeight 12 = .ok (.lload_n 2, 1) := by decide +kernel
theorem dX1_leastWeight_13 : decode cX1_leastWeight 13 = .ok (.aload_n 0, 1) := by decide +kernel
theorem dX1_leastWeight_14 : decode cX1_leastWeight 14 = .ok (.getfield 35, 3) := by decide +kernel
theorem dX1_leastWeight_17 : decode cX1_leastWeight 17 = .ok (.iload 4, 2) := by decide +kernel
theorem dX1_leastWeight_19 : decode cX1_leastWeight 19 = .ok (.ishr, 1) := by decide +kernel
theorem dX1_leastWeight_20 : decode cX1_leastWeight 20 = .ok (.iconst 1, 1) := by decide +kernel
theorem dX1_leastWeight_21 : decode cX1_leastWeight 21 = .ok (.iand, 1) := by decide +kernel
theorem dX1_leastWeight_22 : decode cX1_leastWeight 22 = .ok (.iconst 1, 1) := by decide +kernel
theorem dX1_leastWeight_23 : decode cX1_leastWeight 23 = .ok (.if_icmp .ne 10, 3) := by decide +kernel
theorem dX1_leastWeight_26 : decode cX1_leastWeight 26 = .ok (.aload_n 1, 1) := by decide +kernel
theorem dX1_leastWeight_27 : decode cX1_leastWeight 27 = .ok (.iload 4, 2) := by decide +kernel
theorem dX1_leastWeight_29 : decode cX1_leastWeight 29 = .ok (.laload, 1) := by decide +kernel
theorem dX1_leastWeight_30 : decode cX1_leastWeight 30 = .ok (.goto 4, 3) := by decide +kernel
theorem dX1_leastWeight_33 : decode cX1_leastWeight 33 = .ok (.lconst 0, 1) := by decide +kernel
theorem dX1_leastWeight_34 : decode cX1_leastWeight 34 = .ok (.ladd, 1) := by decide +kernel
theorem dX1_leastWeight_35 : decode cX1_leastWeight 35 = .ok (.lstore_n 2, 1) := by decide +kernel
theorem dX1_leastWeight_36 : decode cX1_leastWeight 36 = .ok (.iinc 4 1, 3) := by decide +kernel
theorem dX1_leastWeight_39 : decode cX1_leastWeight 39 = .ok (.goto (-34), 3) := by decide +kernel
theorem dX1_leastWeight_42 : decode cX1_leastWeight 42 = .ok (.aload_n 0, 1) := by decide +kernel
theorem dX1_leastWeight_43 : decode cX1_leastWeight 43 = .ok (.ldc2_w 48, 3) := by decide +kernel
theorem dX1_leastWeight_46 : decode cX1_leastWeight 46 = .ok (.putfield 50, 3) := by decide +kernel
theorem dX1_leastWeight_49 : decode cX1_leastWeight 49 = .ok (.aload_n 0, 1) := by decide +kernel
theorem dX1_leastWeight_50 : decode cX1_leastWeight 50 = .ok (.aload_n 1, 1) := by decide +kernel
theorem dX1_leastWeight_51 : decode cX1_leastWeight 51 = .ok (.aload_n 0, 1) := by decide +kernel
theorem dX1_leastWeight_52 : decode cX1_leastWeight 52 = .ok (.getfield 35, 3) := by decide +kernel
theorem dX1_leastWeight_55 : decode cX1_leastWeight 55 = .ok (.iconst 0, 1) := by decide +kernel
theorem dX1_leastWeight_56 : decode cX1_leastWeight 56 = .ok (.lload_n 2, 1) := by decide +kernel
theorem dX1_leastWeight_57 : decode cX1_leastWeight 57 = .ok (.iconst 0, 1) := by decide +kernel
theorem dX1_leastWeight_58 : decode cX1_leastWeight 58 = .ok (.invokevirtual 54, 3) := by decide +kernel
theorem dX1_leastWeight_61 : decode cX1_leastWeight 61 = .ok (.aload_n 0, 1) := by decide +kernel
theorem dX1_leastWeight_62 : decode cX1_leastWeight 62 = .ok (.getfield 50, 3) := by decide +kernel
theorem dX1_leastWeight_65 : decode cX1_leastWeight 65 = .ok (.lreturn, 1) := by decide +kernel
theorem dX1_search_0 : decode cX1_search 0 = .ok (.iload 6, 2) := by decide +kernel
theorem dX1_search_2 : decode cX1_search 2 = .ok (.bipush 25, 2) := by decide +kernel
theorem dX1_search_4 : decode cX1_search 4 = .ok (.if_icmp .gt 21, 3) := by decide +kernel
theorem dX1_search_7 : decode cX1_search 7 = .ok (.lload 4, 2) := by decide +kernel
theorem dX1_search_9 : decode cX1_search 9 = .ok (.aload_n 0, 1) := by decide +kernel
theorem dX1_search_10 : decode cX1_search 10 = .ok (.aload_n 1, 1) := by decide +kernel
theorem dX1_search_11 : decode cX1_search 11 = .ok (.iload_n 2, 1) := by decide +kernel
theorem dX1_search_12 : decode cX1_search 12 = .ok (.iload_n 3, 1) := by decide +kernel
theorem dX1_search_13 : decode cX1_search 13 = .ok (.invokevirtual 58, 3) := by decide +kernel
theorem dX1_search_16 : decode cX1_search 16 = .ok (.ladd, 1) := by decide +kernel
theorem dX1_search_17 : decode cX1_search 17 = .ok (.aload_n 0, 1) := by decide +kernel
theorem dX1_search_18 : decode cX1_search 18 = .ok (.getfield 50, 3) := by decide +kernel
theorem dX1_search_21 : decode cX1_search 21 = .ok (.lcmp, 1) := by decide +kernel
theorem dX1_search_22 : decode cX1_search 22 = .ok (.ifCond .lt 4, 3) := by decide +kernel
theorem dX1_search_25 : decode cX1_search 25 = .ok (.return_, 1) := by decide +kernel
theorem dX1_search_26 : decode cX1_search 26 = .ok (.aload_n 0, 1) := by decide +kernel
theorem dX1_search_27 : decode cX1_search 27 = .ok (.getfield 62, 3) := by decide +kernel
theorem dX1_search_30 : decode cX1_search 30 = .ok (.istore 7, 2) := by decide +kernel
theorem dX1_search_32 : decode cX1_search 32 = .ok (.iload 7, 2) := by decide +kernel
theorem dX1_search_34 : decode cX1_search 34 = .ok (.ifCond .ne 10, 3) := by decide +kernel
theorem dX1_search_37 : decode cX1_search 37 = .ok (.aload_n 0, 1) := by decide +kernel
theorem dX1_search_38 : decode cX1_search 38 = .ok (.lload 4, 2) := by decide +kernel
theorem dX1_search_40 : decode cX1_search 40 = .ok (.putfield 50, 3) := by decide +kernel
theorem dX1_search_43 : decode cX1_search 43 = .ok (.return_, 1) := by decide +kernel
theorem dX1_search_44 : decode cX1_search 44 = .ok (.iload_n 3, 1) := by decide +kernel
theorem dX1_search_45 : decode cX1_search 45 = .ok (.istore 8, 2) := by decide +kernel
theorem dX1_search_47 : decode cX1_search 47 = .ok (.iconst 0, 1) := by decide +kernel
theorem dX1_search_48 : decode cX1_search 48 = .ok (.istore 9, 2) := by decide +kernel
theorem dX1_search_50 : decode cX1_search 50 = .ok (.iload 9, 2) := by decide +kernel
theorem dX1_search_52 : decode cX1_search 52 = .ok (.bipush 25, 2) := by decide +kernel
theorem dX1_search_54 : decode cX1_search 54 = .ok (.if_icmp .ge 66, 3) := by decide +kernel
theorem dX1_search_57 : decode cX1_search 57 = .ok (.iload 7, 2) := by decide +kernel
theorem dX1_search_59 : decode cX1_search 59 = .ok (.ifCond .eq 61, 3) := by decide +kernel
theorem dX1_search_62 : decode cX1_search 62 = .ok (.aload_n 1, 1) := by decide +kernel
theorem dX1_search_63 : decode cX1_search 63 = .ok (.iload 7, 2) := by decide +kernel
theorem dX1_search_65 : decode cX1_search 65 = .ok (.invokestatic 65, 3) := by decide +kernel
theorem dX1_search_68 : decode cX1_search 68 = .ok (.istore 10, 2) := by decide +kernel
theorem dX1_search_70 : decode cX1_search 70 = .ok (.aload_n 0, 1) := by decide +kernel
theorem dX1_search_71 : decode cX1_search 71 = .ok (.aload_n 1, 1) := by decide +kernel
theorem dX1_search_72 : decode cX1_search 72 = .ok (.iload_n 2, 1) := by decide +kernel
theorem dX1_search_73 : decode cX1_search 73 = .ok (.iconst 1, 1) := by decide +kernel
theorem dX1_search_74 : decode cX1_search 74 = .ok (.iload 10, 2) := by decide +kernel
theorem dX1_search_76 : decode cX1_search 76 = .ok (.ishl, 1) := by decide +kernel
theorem dX1_search_77 : decode cX1_search 77 = .ok (.ior, 1) := by decide +kernel
theorem dX1_search_78 : decode cX1_search 78 = .ok (.iload 8, 2) := by decide +kernel
theorem dX1_search_80 : decode cX1_search 80 = .ok (.lload 4, 2) := by decide +kernel
theorem dX1_search_82 : decode cX1_search 82 = .ok (.aload_n 1, 1) := by decide +kernel
theorem dX1_search_83 : decode cX1_search 83 = .ok (.iload 10, 2) := by decide +kernel
theorem dX1_search_85 : decode cX1_search 85 = .ok (.laload, 1) := by decide +kernel
theorem dX1_search_86 : decode cX1_search 86 = .ok (.ladd, 1) := by decide +kernel
theorem dX1_search_87 : decode cX1_search 87 = .ok (.iload 6, 2) := by decide +kernel
theorem dX1_search_89 : decode cX1_search 89 = .ok (.iconst 1, 1) := by decide +kernel
theorem dX1_search_90 : decode cX1_search 90 = .ok (.iadd, 1) := by decide +kernel
theorem dX1_search_91 : decode cX1_search 91 = .ok (.invokevirtual 54, 3) := by decide +kernel
theorem dX1_search_94 : decode cX1_search 94 = .ok (.iload 8, 2) := by decide +kernel
theorem dX1_search_96 : decode cX1_search 96 = .ok (.iconst 1, 1) := by decide +kernel
theorem dX1_search_97 : decode cX1_search 97 = .ok (.iload 10, 2) := by decide +kernel
theorem dX1_search_99 : decode cX1_search 99 = .ok (.ishl, 1) := by decide +kernel
theorem dX1_search_100 : decode cX1_search 100 = .ok (.ior, 1) := by decide +kernel
theorem dX1_search_101 : decode cX1_search 101 = .ok (.istore 8, 2) := by decide +kernel
theorem dX1_search_103 : decode cX1_search 103 = .ok (.iload 7, 2) := by decide +kernel
theorem dX1_search_105 : decode cX1_search 105 = .ok (.iconst 1, 1) := by decide +kernel
theorem dX1_search_106 : decode cX1_search 106 = .ok (.iload 10, 2) := by decide +kernel
theorem dX1_search_108 : decode cX1_search 108 = .ok (.ishl, 1) := by decide +kernel
theorem dX1_search_109 : decode cX1_search 109 = .ok (.iconst (-1), 1) := by decide +kernel
theorem dX1_search_110 : decode cX1_search 110 = .ok (.ixor, 1) := by decide +kernel
theorem dX1_search_111 : decode cX1_search 111 = .ok (.iand, 1) := by decide +kernel
theorem dX1_search_112 : decode cX1_search 112 = .ok (.istore 7, 2) := by decide +kernel
theorem dX1_search_114 : decode cX1_search 114 = .ok (.iinc 9 1, 3) := by decide +kernel
theorem dX1_search_117 : decode cX1_search 117 = .ok (.goto (-67), 3) := by decide +kernel
theorem dX1_search_120 : decode cX1_search 120 = .ok (.return_, 1) := by decide +kernel
theorem dX1_floorOf_0 : decode cX1_floorOf 0 = .ok (.aload_n 0, 1) := by decide +kernel
theorem dX1_floorOf_1 : decode cX1_floorOf 1 = .ok (.getfield 18, 3) := by decide +kernel
theorem dX1_floorOf_4 : decode cX1_floorOf 4 = .ok (.lconst 0, 1) := by decide +kernel
theorem dX1_floorOf_5 : decode cX1_floorOf 5 = .ok (.invokestatic 69, 3) := by decide +kernel
theorem dX1_floorOf_8 : decode cX1_floorOf 8 = .ok (.aload_n 0, 1) := by decide +kernel
theorem dX1_floorOf_9 : decode cX1_floorOf 9 = .ok (.iconst 0, 1) := by decide +kernel
theorem dX1_floorOf_10 : decode cX1_floorOf 10 = .ok (.putfield 62, 3) := by decide +kernel
theorem dX1_floorOf_13 : decode cX1_floorOf 13 = .ok (.iconst 0, 1) := by decide +kernel
theorem dX1_floorOf_14 : decode cX1_floorOf 14 = .ok (.istore 4, 2) := by decide +kernel
theorem dX1_floorOf_16 : decode cX1_floorOf 16 = .ok (.iload 4, 2) := by decide +kernel
theorem dX1_floorOf_18 : decode cX1_floorOf 18 = .ok (.aload_n 0, 1) := by decide +kernel
theorem dX1_floorOf_19 : decode cX1_floorOf 19 = .ok (.getfield 31, 3) := by decide +kernel
theorem dX1_floorOf_22 : decode cX1_floorOf 22 = .ok (.if_icmp .ge 94, 3) := by decide +kernel
theorem dX1_floorOf_25 : decode cX1_floorOf 25 = .ok (.aload_n 0, 1) := by decide +kernel
theorem dX1_floorOf_26 : decode cX1_floorOf 26 = .ok (.getfield 9, 3) := by decide +kernel
theorem dX1_floorOf_29 : decode cX1_floorOf 29 = .ok (.iload 4, 2) := by decide +kernel
theorem dX1_floorOf_31 : decode cX1_floorOf 31 = .ok (.iaload, 1) := by decide +kernel
theorem dX1_floorOf_32 : decode cX1_floorOf 32 = .ok (.iload_n 2, 1) := by decide +kernel
theorem dX1_floorOf_33 : decode cX1_floorOf 33 = .ok (.iand, 1) := by decide +kernel
theorem dX1_floorOf_34 : decode cX1_floorOf 34 = .ok (.ifCond .ne 76, 3) := by decide +kernel
theorem dX1_floorOf_37 : decode cX1_floorOf 37 = .ok (.aload_n 0, 1) := by decide +kernel
theorem dX1_floorOf_38 : decode cX1_floorOf 38 = .ok (.getfield 9, 3) := by decide +kernel
theorem dX1_floorOf_41 : decode cX1_floorOf 41 = .ok (.iload 4, 2) := by decide +kernel
theorem dX1_floorOf_43 : decode cX1_floorOf 43 = .ok (.iaload, 1) := by decide +kernel
theorem dX1_floorOf_44 : decode cX1_floorOf 44 = .ok (.iload_n 3, 1) := by decide +kernel
theorem dX1_floorOf_45 : decode cX1_floorOf 45 = .ok (.iconst (-1), 1) := by decide +kernel
theorem dX1_floorOf_46 : decode cX1_floorOf 46 = .ok (.ixor, 1) := by decide +kernel
theorem dX1_floorOf_47 : decode cX1_floorOf 47 = .ok (.iand, 1) := by decide +kernel
theorem dX1_floorOf_48 : decode cX1_floorOf 48 = .ok (.istore 5, 2) := by decide +kernel
theorem dX1_floorOf_50 : decode cX1_floorOf 50 = .ok (.iload 5, 2) := by decide +kernel
theorem dX1_floorOf_52 : decode cX1_floorOf 52 = .ok (.ifCond .ne 7, 3) := by decide +kernel
theorem dX1_floorOf_55 : decode cX1_floorOf 55 = .ok (.ldc2_w 48, 3) := by decide +kernel
theorem dX1_floorOf_58 : decode cX1_floorOf 58 = .ok (.lreturn, 1) := by decide +kernel
theorem dX1_floorOf_59 : decode cX1_floorOf 59 = .ok (.aload_n 0, 1) := by decide +kernel
theorem dX1_floorOf_60 : decode cX1_floorOf 60 = .ok (.getfield 62, 3) := by decide +kernel
theorem dX1_floorOf_63 : decode cX1_floorOf 63 = .ok (.ifCond .eq 18, 3) := by decide +kernel
theorem dX1_floorOf_66 : decode cX1_floorOf 66 = .ok (.iload 5, 2) := by decide +kernel
theorem dX1_floorOf_68 : decode cX1_floorOf 68 = .ok (.invokestatic 42, 3) := by decide +kernel
theorem dX1_floorOf_71 : decode cX1_floorOf 71 = .ok (.aload_n 0, 1) := by decide +kernel
theorem dX1_floorOf_72 : decode cX1_floorOf 72 = .ok (.getfield 62, 3) := by decide +kernel
theorem dX1_floorOf_75 : decode cX1_floorOf 75 = .ok (.invokestatic 42, 3) := by decide +kernel
theorem dX1_floorOf_78 : decode cX1_floorOf 78 = .ok (.if_icmp .ge 9, 3) := by decide +kernel
theorem dX1_floorOf_81 : decode cX1_floorOf 81 = .ok (.aload_n 0, 1) := by decide +kernel
theorem dX1_floorOf_82 : decode cX1_floorOf 82 = .ok (.iload 5, 2) := by decide +kernel
theorem dX1_floorOf_84 : decode cX1_floorOf 84 = .ok (.putfield 62, 3) := by decide +kernel
theorem dX1_floorOf_87 : decode cX1_floorOf 87 = .ok (.aload_n 0, 1) := by decide +kernel
theorem dX1_floorOf_88 : decode cX1_floorOf 88 = .ok (.getfield 18, 3) := by decide +kernel
theorem dX1_floorOf_91 : decode cX1_floorOf 91 = .ok (.aload_n 0, 1) := by decide +kernel
theorem dX1_floorOf_92 : decode cX1_floorOf 92 = .ok (.getfield 15, 3) := by decide +kernel
theorem dX1_floorOf_95 : decode cX1_floorOf 95 = .ok (.iload 4, 2) := by decide +kernel
theorem dX1_floorOf_97 : decode cX1_floorOf 97 = .ok (.iaload, 1) := by decide +kernel
theorem dX1_floorOf_98 : decode cX1_floorOf 98 = .ok (.dup2, 1) := by decide +kernel
theorem dX1_floorOf_99 : decode cX1_floorOf 99 = .ok (.laload, 1) := by decide +kernel
theorem dX1_floorOf_100 : decode cX1_floorOf 100 = .ok (.aload_n 1, 1) := by decide +kernel
theorem dX1_floorOf_101 : decode cX1_floorOf 101 = .ok (.aload_n 1, 1) := by decide +kernel
theorem dX1_floorOf_102 : decode cX1_floorOf 102 = .ok (.iload 5, 2) := by decide +kernel
theorem dX1_floorOf_104 : decode cX1_floorOf 104 = .ok (.invokestatic 65, 3) := by decide +kernel
theorem dX1_floorOf_107 : decode cX1_floorOf 107 = .ok (.laload, 1) := by decide +kernel
theorem dX1_floorOf_108 : decode cX1_floorOf 108 = .ok (.ladd, 1) := by decide +kernel
theorem dX1_floorOf_109 : decode cX1_floorOf 109 = .ok (.lastore, 1) := by decide +kernel
theorem dX1_floorOf_110 : decode cX1_floorOf 110 = .ok (.iinc 4 1, 3) := by decide +kernel
theorem dX1_floorOf_113 : decode cX1_floorOf 113 = .ok (.goto (-97), 3) := by decide +kernel
theorem dX1_floorOf_116 : decode cX1_floorOf 116 = .ok (.aload_n 0, 1) := by decide +kernel
theorem dX1_floorOf_117 : decode cX1_floorOf 117 = .ok (.getfield 18, 3) := by decide +kernel
theorem dX1_floorOf_120 : decode cX1_floorOf 120 = .ok (.iconst 0, 1) := by decide +kernel
theorem dX1_floorOf_121 : decode cX1_floorOf 121 = .ok (.laload, 1) := by decide +kernel
theorem dX1_floorOf_122 : decode cX1_floorOf 122 = .ok (.aload_n 0, 1) := by decide +kernel
theorem dX1_floorOf_123 : decode cX1_floorOf 123 = .ok (.getfield 18, 3) := by decide +kernel
theorem dX1_floorOf_126 : decode cX1_floorOf 126 = .ok (.iconst 1, 1) := by decide +kernel
theorem dX1_floorOf_127 : decode cX1_floorOf 127 = .ok (.laload, 1) := by decide +kernel
theorem dX1_floorOf_128 : decode cX1_floorOf 128 = .ok (.invokestatic 75, 3) := by decide +kernel
theorem dX1_floorOf_131 : decode cX1_floorOf 131 = .ok (.aload_n 0, 1) := by decide +kernel
theorem dX1_floorOf_132 : decode cX1_floorOf 132 = .ok (.getfield 18, 3) := by decide +kernel
theorem dX1_floorOf_135 : decode cX1_floorOf 135 = .ok (.iconst 2, 1) := by decide +kernel
theorem dX1_floorOf_136 : decode cX1_floorOf 136 = .ok (.laload, 1) := by decide +kernel
theorem dX1_floorOf_137 : decode cX1_floorOf 137 = .ok (.aload_n 0, 1) := by decide +kernel
theorem dX1_floorOf_138 : decode cX1_floorOf 138 = .ok (.getfield 18, 3) := by decide +kernel
theorem dX1_floorOf_141 : decode cX1_floorOf 141 = .ok (.iconst 3, 1) := by decide +kernel
theorem dX1_floorOf_142 : decode cX1_floorOf 142 = .ok (.laload, 1) := by decide +kernel
theorem dX1_floorOf_143 : decode cX1_floorOf 143 = .ok (.invokestatic 75, 3) := by decide +kernel
theorem dX1_floorOf_146 : decode cX1_floorOf 146 = .ok (.invokestatic 75, 3) := by decide +kernel
theorem dX1_floorOf_149 : decode cX1_floorOf 149 = .ok (.lreturn, 1) := by decide +kernel
theorem dX1_lightest_0 : decode cX1_lightest 0 = .ok (.iload_n 1, 1) := by decide +kernel
theorem dX1_lightest_1 : decode cX1_lightest 1 = .ok (.istore_n 2, 1) := by decide +kernel
theorem dX1_lightest_2 : decode cX1_lightest 2 = .ok (.iconst (-1), 1) := by decide +kernel
theorem dX1_lightest_3 : decode cX1_lightest 3 = .ok (.istore_n 3, 1) := by decide +kernel
theorem dX1_lightest_4 : decode cX1_lightest 4 = .ok (.iconst 0, 1) := by decide +kernel
theorem dX1_lightest_5 : decode cX1_lightest 5 = .ok (.istore 4, 2) := by decide +kernel
theorem dX1_lightest_7 : decode cX1_lightest 7 = .ok (.iload 4, 2) := by decide +kernel
theorem dX1_lightest_9 : decode cX1_lightest 9 = .ok (.bipush 25, 2) := by decide +kernel
theorem dX1_lightest_11 : decode cX1_lightest 11 = .ok (.if_icmp .ge 44, 3) := by decide +kernel
theorem dX1_lightest_14 : decode cX1_lightest 14 = .ok (.iload_n 2, 1) := by decide +kernel
theorem dX1_lightest_15 : decode cX1_lightest 15 = .ok (.ifCond .eq 40, 3) := by decide +kernel
theorem dX1_lightest_18 : decode cX1_lightest 18 = .ok (.iload_n 2, 1) := by decide +kernel
theorem dX1_lightest_19 : decode cX1_lightest 19 = .ok (.invokestatic 81, 3) := by decide +kernel
theorem dX1_lightest_22 : decode cX1_lightest 22 = .ok (.istore 5, 2) := by decide +kernel
theorem dX1_lightest_24 : decode cX1_lightest 24 = .ok (.iload_n 3, 1) := by decide +kernel
theorem dX1_lightest_25 : decode cX1_lightest 25 = .ok (.iconst (-1), 1) := by decide +kernel
theorem dX1_lightest_26 : decode cX1_lightest 26 = .ok (.if_icmp .eq 14, 3) := by decide +kernel
theorem dX1_lightest_29 : decode cX1_lightest 29 = .ok (.aload_n 0, 1) := by decide +kernel
theorem dX1_lightest_30 : decode cX1_lightest 30 = .ok (.iload 5, 2) := by decide +kernel
theorem dX1_lightest_32 : decode cX1_lightest 32 = .ok (.laload, 1) := by decide +kernel
theorem dX1_lightest_33 : decode cX1_lightest 33 = .ok (.aload_n 0, 1) := by decide +kernel
theorem dX1_lightest_34 : decode cX1_lightest 34 = .ok (.iload_n 3, 1) := by decide +kernel
theorem dX1_lightest_35 : decode cX1_lightest 35 = .ok (.laload, 1) := by decide +kernel
theorem dX1_lightest_36 : decode cX1_lightest 36 = .ok (.lcmp, 1) := by decide +kernel
theorem dX1_lightest_37 : decode cX1_lightest 37 = .ok (.ifCond .ge 6, 3) := by decide +kernel
theorem dX1_lightest_40 : decode cX1_lightest 40 = .ok (.iload 5, 2) := by decide +kernel
theorem dX1_lightest_42 : decode cX1_lightest 42 = .ok (.istore_n 3, 1) := by decide +kernel
theorem dX1_lightest_43 : decode cX1_lightest 43 = .ok (.iload_n 2, 1) := by decide +kernel
theorem dX1_lightest_44 : decode cX1_lightest 44 = .ok (.iload_n 2, 1) := by decide +kernel
theorem dX1_lightest_45 : decode cX1_lightest 45 = .ok (.iconst 1, 1) := by decide +kernel
theorem dX1_lightest_46 : decode cX1_lightest 46 = .ok (.isub, 1) := by decide +kernel
theorem dX1_lightest_47 : decode cX1_lightest 47 = .ok (.iand, 1) := by decide +kernel
theorem dX1_lightest_48 : decode cX1_lightest 48 = .ok (.istore_n 2, 1) := by decide +kernel
theorem dX1_lightest_49 : decode cX1_lightest 49 = .ok (.iinc 4 1, 3) := by decide +kernel
theorem dX1_lightest_52 : decode cX1_lightest 52 = .ok (.goto (-45), 3) := by decide +kernel
theorem dX1_lightest_55 : decode cX1_lightest 55 = .ok (.iload_n 3, 1) := by decide +kernel
theorem dX1_lightest_56 : decode cX1_lightest 56 = .ok (.iconst 0, 1) := by decide +kernel
theorem dX1_lightest_57 : decode cX1_lightest 57 = .ok (.invokestatic 84, 3) := by decide +kernel
theorem dX1_lightest_60 : decode cX1_lightest 60 = .ok (.ireturn, 1) := by decide +kernel
theorem dX1_countWays_0 : decode cX1_countWays 0 = .ok (.aload_n 0, 1) := by decide +kernel
theorem dX1_countWays_1 : decode cX1_countWays 1 = .ok (.iload_n 1, 1) := by decide +kernel
theorem dX1_countWays_2 : decode cX1_countWays 2 = .ok (.invokevirtual 87, 3) := by decide +kernel
theorem dX1_countWays_5 : decode cX1_countWays 5 = .ok (.ifCond .ne 5, 3) := by decide +kernel
theorem dX1_countWays_8 : decode cX1_countWays 8 = .ok (.lconst 0, 1) := by decide +kernel
theorem dX1_countWays_9 : decode cX1_countWays 9 = .ok (.lreturn, 1) := by decide +kernel
theorem dX1_countWays_10 : decode cX1_countWays 10 = .ok (.aload_n 0, 1) := by decide +kernel
theorem dX1_countWays_11 : decode cX1_countWays 11 = .ok (.getfield 28, 3) := by decide +kernel
theorem dX1_countWays_14 : decode cX1_countWays 14 = .ok (.lconst 0, 1) := by decide +kernel
theorem dX1_countWays_15 : decode cX1_countWays 15 = .ok (.invokestatic 69, 3) := by decide +kernel
theorem dX1_countWays_18 : decode cX1_countWays 18 = .ok (.aload_n 0, 1) := by decide +kernel
theorem dX1_countWays_19 : decode cX1_countWays 19 = .ok (.getfield 28, 3) := by decide +kernel
theorem dX1_countWays_22 : decode cX1_countWays 22 = .ok (.iconst 0, 1) := by decide +kernel
theorem dX1_countWays_23 : decode cX1_countWays 23 = .ok (.lconst 1, 1) := by decide +kernel
theorem dX1_countWays_24 : decode cX1_countWays 24 = .ok (.lastore, 1) := by decide +kernel
theorem dX1_countWays_25 : decode cX1_countWays 25 = .ok (.lconst 1, 1) := by decide +kernel
theorem dX1_countWays_26 : decode cX1_countWays 26 = .ok (.lstore_n 3, 1) := by decide +kernel
theorem dX1_countWays_27 : decode cX1_countWays 27 = .ok (.iconst 0, 1) := by decide +kernel
theorem dX1_countWays_28 : decode cX1_countWays 28 = .ok (.istore 5, 2) := by decide +kernel
theorem dX1_countWays_30 : decode cX1_countWays 30 = .ok (.iload 5, 2) := by decide +kernel
theorem dX1_countWays_32 : decode cX1_countWays 32 = .ok (.iload_n 1, 1) := by decide +kernel
theorem dX1_countWays_33 : decode cX1_countWays 33 = .ok (.if_icmp .ge 84, 3) := by decide +kernel
theorem dX1_countWays_36 : decode cX1_countWays 36 = .ok (.aload_n 0, 1) := by decide +kernel
theorem dX1_countWays_37 : decode cX1_countWays 37 = .ok (.iload 5, 2) := by decide +kernel
theorem dX1_countWays_39 : decode cX1_countWays 39 = .ok (.invokevirtual 91, 3) := by decide +kernel
theorem dX1_countWays_42 : decode cX1_countWays 42 = .ok (.istore 6, 2) := by decide +kernel
theorem dX1_countWays_44 : decode cX1_countWays 44 = .ok (.iload 6, 2) := by decide +kernel
theorem dX1_countWays_46 : decode cX1_countWays 46 = .ok (.ifCond .eq 40, 3) := by decide +kernel
theorem dX1_countWays_49 : decode cX1_countWays 49 = .ok (.aload_n 0, 1) := by decide +kernel
theorem dX1_countWays_50 : decode cX1_countWays 50 = .ok (.iload 6, 2) := by decide +kernel
theorem dX1_countWays_52 : decode cX1_countWays 52 = .ok (.aload_n 2, 1) := by decide +kernel
theorem dX1_countWays_53 : decode cX1_countWays 53 = .ok (.iload 5, 2) := by decide +kernel
theorem dX1_countWays_55 : decode cX1_countWays 55 = .ok (.laload, 1) := by decide +kernel
theorem dX1_countWays_56 : decode cX1_countWays 56 = .ok (.aload_n 0, 1) := by decide +kernel
theorem dX1_countWays_57 : decode cX1_countWays 57 = .ok (.getfield 25, 3) := by decide +kernel
theorem dX1_countWays_60 : decode cX1_countWays 60 = .ok (.iload 5, 2) := by decide +kernel
theorem dX1_countWays_62 : decode cX1_countWays 62 = .ok (.iaload, 1) := by decide +kernel
theorem dX1_countWays_63 : decode cX1_countWays 63 = .ok (.invokevirtual 94, 3) := by decide +kernel
theorem dX1_countWays_66 : decode cX1_countWays 66 = .ok (.aload_n 0, 1) := by decide +kernel
theorem dX1_countWays_67 : decode cX1_countWays 67 = .ok (.aload_n 0, 1) := by decide +kernel
theorem dX1_countWays_68 : decode cX1_countWays 68 = .ok (.iload 5, 2) := by decide +kernel
theorem dX1_countWays_70 : decode cX1_countWays 70 = .ok (.invokevirtual 98, 3) := by decide +kernel
theorem dX1_countWays_73 : decode cX1_countWays 73 = .ok (.aload_n 0, 1) := by decide +kernel
theorem dX1_countWays_74 : decode cX1_countWays 74 = .ok (.getfield 25, 3) := by decide +kernel
theorem dX1_countWays_77 : decode cX1_countWays 77 = .ok (.iload 5, 2) := by decide +kernel
theorem dX1_countWays_79 : decode cX1_countWays 79 = .ok (.iaload, 1) := by decide +kernel
theorem dX1_countWays_80 : decode cX1_countWays 80 = .ok (.invokevirtual 101, 3) := by decide +kernel
theorem dX1_countWays_83 : decode cX1_countWays 83 = .ok (.goto 28, 3) := by decide +kernel
theorem dX1_countWays_86 : decode cX1_countWays 86 = .ok (.aload_n 0, 1) := by decide +kernel
theorem dX1_countWays_87 : decode cX1_countWays 87 = .ok (.getfield 35, 3) := by decide +kernel
theorem dX1_countWays_90 : decode cX1_countWays 90 = .ok (.iload 5, 2) := by decide +kernel
theorem dX1_countWays_92 : decode cX1_countWays 92 = .ok (.ishr, 1) := by decide +kernel
theorem dX1_countWays_93 : decode cX1_countWays 93 = .ok (.iconst 1, 1) := by decide +kernel
theorem dX1_countWays_94 : decode cX1_countWays 94 = .ok (.iand, 1) := by decide +kernel
theorem dX1_countWays_95 : decode cX1_countWays 95 = .ok (.ifCond .ne 16, 3) := by decide +kernel
theorem dX1_countWays_98 : decode cX1_countWays 98 = .ok (.lload_n 3, 1) := by decide +kernel
theorem dX1_countWays_99 : decode cX1_countWays 99 = .ok (.aload_n 2, 1) := by decide +kernel
theorem dX1_countWays_100 : decode cX1_countWays 100 = .ok (.iload 5, 2) := by decide +kernel
theorem dX1_countWays_102 : decode cX1_countWays 102 = .ok (.laload, 1) := by decide +kernel
theorem dX1_countWays_103 : decode cX1_countWays 103 = .ok (.lconst 1, 1) := by decide +kernel
theorem dX1_countWays_104 : decode cX1_countWays 104 = .ok (.ladd, 1) := by decide +kernel
theorem dX1_countWays_105 : decode cX1_countWays 105 = .ok (.lmul, 1) := by decide +kernel
theorem dX1_countWays_106 : decode cX1_countWays 106 = .ok (.ldc2_w 104, 3) := by decide +kernel
theorem dX1_countWays_109 : decode cX1_countWays 109 = .ok (.lrem, 1) := by decide +kernel
theorem dX1_countWays_110 : decode cX1_countWays 110 = .ok (.lstore_n 3, 1) := by decide +kernel
theorem dX1_countWays_111 : decode cX1_countWays 111 = .ok (.iinc 5 1, 3) := by decide +kernel
theorem dX1_countWays_114 : decode cX1_countWays 114 = .ok (.goto (-84), 3) := by decide +kernel
theorem dX1_countWays_117 : decode cX1_countWays 117 = .ok (.lload_n 3, 1) := by decide +kernel
theorem dX1_countWays_118 : decode cX1_countWays 118 = .ok (.aload_n 0, 1) := by decide +kernel
theorem dX1_countWays_119 : decode cX1_countWays 119 = .ok (.getfield 28, 3) := by decide +kernel
theorem dX1_countWays_122 : decode cX1_countWays 122 = .ok (.iconst 0, 1) := by decide +kernel
theorem dX1_countWays_123 : decode cX1_countWays 123 = .ok (.laload, 1) := by decide +kernel
theorem dX1_countWays_124 : decode cX1_countWays 124 = .ok (.lmul, 1) := by decide +kernel
theorem dX1_countWays_125 : decode cX1_countWays 125 = .ok (.ldc2_w 104, 3) := by decide +kernel
theorem dX1_countWays_128 : decode cX1_countWays 128 = .ok (.lrem, 1) := by decide +kernel
theorem dX1_countWays_129 : decode cX1_countWays 129 = .ok (.lreturn, 1) := by decide +kernel
theorem dX1_holdSlots_0 : decode cX1_holdSlots 0 = .ok (.iconst 0, 1) := by decide +kernel
theorem dX1_holdSlots_1 : decode cX1_holdSlots 1 = .ok (.istore_n 2, 1) := by decide +kernel
theorem dX1_holdSlots_2 : decode cX1_holdSlots 2 = .ok (.iconst 0, 1) := by decide +kernel
theorem dX1_holdSlots_3 : decode cX1_holdSlots 3 = .ok (.istore_n 3, 1) := by decide +kernel
theorem dX1_holdSlots_4 : decode cX1_holdSlots 4 = .ok (.iload_n 3, 1) := by decide +kernel
theorem dX1_holdSlots_5 : decode cX1_holdSlots 5 = .ok (.iload_n 1, 1) := by decide +kernel
theorem dX1_holdSlots_6 : decode cX1_holdSlots 6 = .ok (.if_icmp .ge 100, 3) := by decide +kernel
theorem dX1_holdSlots_9 : decode cX1_holdSlots 9 = .ok (.iconst 0, 1) := by decide +kernel
theorem dX1_holdSlots_10 : decode cX1_holdSlots 10 = .ok (.istore 4, 2) := by decide +kernel
theorem dX1_holdSlots_12 : decode cX1_holdSlots 12 = .ok (.iload 4, 2) := by decide +kernel
theorem dX1_holdSlots_14 : decode cX1_holdSlots 14 = .ok (.aload_n 0, 1) := by decide +kernel
theorem dX1_holdSlots_15 : decode cX1_holdSlots 15 = .ok (.getfield 31, 3) := by decide +kernel
theorem dX1_holdSlots_18 : decode cX1_holdSlots 18 = .ok (.if_icmp .ge 48, 3) := by decide +kernel
theorem dX1_holdSlots_21 : decode cX1_holdSlots 21 = .ok (.aload_n 0, 1) := by decide +kernel
theorem dX1_holdSlots_22 : decode cX1_holdSlots 22 = .ok (.getfield 9, 3) := by decide +kernel
theorem dX1_holdSlots_25 : decode cX1_holdSlots 25 = .ok (.iload 4, 2) := by decide +kernel
theorem dX1_holdSlots_27 : decode cX1_holdSlots 27 = .ok (.iaload, 1) := by decide +kernel
theorem dX1_holdSlots_28 : decode cX1_holdSlots 28 = .ok (.invokestatic 81, 3) := by decide +kernel
theorem dX1_holdSlots_31 : decode cX1_holdSlots 31 = .ok (.iload_n 3, 1) := by decide +kernel
theorem dX1_holdSlots_32 : decode cX1_holdSlots 32 = .ok (.if_icmp .ne 28, 3) := by decide +kernel
theorem dX1_holdSlots_35 : decode cX1_holdSlots 35 = .ok (.aload_n 0, 1) := by decide +kernel
theorem dX1_holdSlots_36 : decode cX1_holdSlots 36 = .ok (.getfield 22, 3) := by decide +kernel
theorem dX1_holdSlots_39 : decode cX1_holdSlots 39 = .ok (.iload 4, 2) := by decide +kernel
theorem dX1_holdSlots_41 : decode cX1_holdSlots 41 = .ok (.iload_n 2, 1) := by decide +kernel
theorem dX1_holdSlots_42 : decode cX1_holdSlots 42 = .ok (.iconst (-1), 1) := by decide +kernel
theorem dX1_holdSlots_43 : decode cX1_holdSlots 43 = .ok (.ixor, 1) := by decide +kernel
theorem dX1_holdSlots_44 : decode cX1_holdSlots 44 = .ok (.invokestatic 81, 3) := by decide +kernel
theorem dX1_holdSlots_47 : decode cX1_holdSlots 47 = .ok (.iastore, 1) := by decide +kernel
theorem dX1_holdSlots_48 : decode cX1_holdSlots 48 = .ok (.iload_n 2, 1) := by decide +kernel
theorem dX1_holdSlots_49 : decode cX1_holdSlots 49 = .ok (.iconst 1, 1) := by decide +kernel
theorem dX1_holdSlots_50 : decode cX1_holdSlots 50 = .ok (.aload_n 0, 1) := by decide +kernel
theorem dX1_holdSlots_51 : decode cX1_holdSlots 51 = .ok (.getfield 22, 3) := by decide +kernel
theorem dX1_holdSlots_54 : decode cX1_holdSlots 54 = .ok (.iload 4, 2) := by decide +kernel
theorem dX1_holdSlots_56 : decode cX1_holdSlots 56 = .ok (.iaload, 1) := by decide +kernel
theorem dX1_holdSlots_57 : decode cX1_holdSlots 57 = .ok (.ishl, 1) := by decide +kernel
theorem dX1_holdSlots_58 : decode cX1_holdSlots 58 = .ok (.ior, 1) := by decide +kernel
theorem dX1_holdSlots_59 : decode cX1_holdSlots 59 = .ok (.istore_n 2, 1) := by decide +kernel
theorem dX1_holdSlots_60 : decode cX1_holdSlots 60 = .ok (.iinc 4 1, 3) := by decide +kernel
theorem dX1_holdSlots_63 : decode cX1_holdSlots 63 = .ok (.goto (-51), 3) := by decide +kernel
theorem dX1_holdSlots_66 : decode cX1_holdSlots 66 = .ok (.iload_n 2, 1) := by decide +kernel
theorem dX1_holdSlots_67 : decode cX1_holdSlots 67 = .ok (.sipush 2048, 3) := by decide +kernel
theorem dX1_holdSlots_70 : decode cX1_holdSlots 70 = .ok (.if_icmp .lt 5, 3) := by decide +kernel
theorem dX1_holdSlots_73 : decode cX1_holdSlots 73 = .ok (.iconst 0, 1) := by decide +kernel
theorem dX1_holdSlots_74 : decode cX1_holdSlots 74 = .ok (.ireturn, 1) := by decide +kernel
theorem dX1_holdSlots_75 : decode cX1_holdSlots 75 = .ok (.aload_n 0, 1) := by decide +kernel
theorem dX1_holdSlots_76 : decode cX1_holdSlots 76 = .ok (.getfield 25, 3) := by decide +kernel
theorem dX1_holdSlots_79 : decode cX1_holdSlots 79 = .ok (.iload_n 3, 1) := by decide +kernel
theorem dX1_holdSlots_80 : decode cX1_holdSlots 80 = .ok (.iconst 1, 1) := by decide +kernel
theorem dX1_holdSlots_81 : decode cX1_holdSlots 81 = .ok (.bipush 32, 2) := by decide +kernel
theorem dX1_holdSlots_83 : decode cX1_holdSlots 83 = .ok (.iload_n 2, 1) := by decide +kernel
theorem dX1_holdSlots_84 : decode cX1_holdSlots 84 = .ok (.invokestatic 106, 3) := by decide +kernel
theorem dX1_holdSlots_87 : decode cX1_holdSlots 87 = .ok (.isub, 1) := by decide +kernel
theorem dX1_holdSlots_88 : decode cX1_holdSlots 88 = .ok (.ishl, 1) := by decide +kernel
theorem dX1_holdSlots_89 : decode cX1_holdSlots 89 = .ok (.iastore, 1) := by decide +kernel
theorem dX1_holdSlots_90 : decode cX1_holdSlots 90 = .ok (.iload_n 2, 1) := by decide +kernel
theorem dX1_holdSlots_91 : decode cX1_holdSlots 91 = .ok (.aload_n 0, 1) := by decide +kernel
theorem dX1_holdSlots_92 : decode cX1_holdSlots 92 = .ok (.iload_n 3, 1) := by decide +kernel
theorem dX1_holdSlots_93 : decode cX1_holdSlots 93 = .ok (.invokevirtual 98, 3) := by decide +kernel
theorem dX1_holdSlots_96 : decode cX1_holdSlots 96 = .ok (.iconst (-1), 1) := by decide +kernel
theorem dX1_holdSlots_97 : decode cX1_holdSlots 97 = .ok (.ixor, 1) := by decide +kernel
theorem dX1_holdSlots_98 : decode cX1_holdSlots 98 = .ok (.iand, 1) := by decide +kernel
theorem dX1_holdSlots_99 : decode cX1_holdSlots 99 = .ok (.istore_n 2, 1) := by decide +kernel
theorem dX1_holdSlots_100 : decode cX1_holdSlots 100 = .ok (.iinc 3 1, 3) := by decide +kernel
theorem dX1_holdSlots_103 : decode cX1_holdSlots 103 = .ok (.goto (-99), 3) := by decide +kernel
theorem dX1_holdSlots_106 : decode cX1_holdSlots 106 = .ok (.iconst 1, 1) := by decide +kernel
theorem dX1_holdSlots_107 : decode cX1_holdSlots 107 = .ok (.ireturn, 1) := by decide +kernel
theorem dX1_slotsClosing_0 : decode cX1_slotsClosing 0 = .ok (.iconst 0, 1) := by decide +kernel
theorem dX1_slotsClosing_1 : decode cX1_slotsClosing 1 = .ok (.istore_n 2, 1) := by decide +kernel
theorem dX1_slotsClosing_2 : decode cX1_slotsClosing 2 = .ok (.iconst 0, 1) := by decide +kernel
theorem dX1_slotsClosing_3 : decode cX1_slotsClosing 3 = .ok (.istore_n 3, 1) := by decide +kernel
theorem dX1_slotsClosing_4 : decode cX1_slotsClosing 4 = .ok (.iload_n 3, 1) := by decide +kernel
theorem dX1_slotsClosing_5 : decode cX1_slotsClosing 5 = .ok (.aload_n 0, 1) := by decide +kernel
theorem dX1_slotsClosing_6 : decode cX1_slotsClosing 6 = .ok (.getfield 31, 3) := by decide +kernel
theorem dX1_slotsClosing_9 : decode cX1_slotsClosing 9 = .ok (.if_icmp .ge 52, 3) := by decide +kernel
theorem dX1_slotsClosing_12 : decode cX1_slotsClosing 12 = .ok (.bipush 31, 2) := by decide +kernel
theorem dX1_slotsClosing_14 : decode cX1_slotsClosing 14 = .ok (.aload_n 0, 1) := by decide +kernel
theorem dX1_slotsClosing_15 : decode cX1_slotsClosing 15 = .ok (.getfield 9, 3) := by decide +kernel
theorem dX1_slotsClosing_18 : decode cX1_slotsClosing 18 = .ok (.iload_n 3, 1) := by decide +kernel
theorem dX1_slotsClosing_19 : decode cX1_slotsClosing 19 = .ok (.iaload, 1) := by decide +kernel
theorem dX1_slotsClosing_20 : decode cX1_slotsClosing 20 = .ok (.invokestatic 106, 3) := by decide +kernel
theorem dX1_slotsClosing_23 : decode cX1_slotsClosing 23 = .ok (.isub, 1) := by decide +kernel
theorem dX1_slotsClosing_24 : decode cX1_slotsClosing 24 = .ok (.iload_n 1, 1) := by decide +kernel
theorem dX1_slotsClosing_25 : decode cX1_slotsClosing 25 = .ok (.if_icmp .ne 7, 3) := by decide +kernel
theorem dX1_slotsClosing_28 : decode cX1_slotsClosing 28 = .ok (.iconst 1, 1) := by decide +kernel
theorem dX1_slotsClosing_29 : decode cX1_slotsClosing 29 = .ok (.goto 4, 3) := by decide +kernel
theorem dX1_slotsClosing_32 : decode cX1_slotsClosing 32 = .ok (.iconst 0, 1) := by decide +kernel
theorem dX1_slotsClosing_33 : decode cX1_slotsClosing 33 = .ok (.istore 4, 2) := by decide +kernel
theorem dX1_slotsClosing_35 : decode cX1_slotsClosing 35 = .ok (.iload_n 2, 1) := by decide +kernel
theorem dX1_slotsClosing_36 : decode cX1_slotsClosing 36 = .ok (.iload 4, 2) := by decide +kernel
theorem dX1_slotsClosing_38 : decode cX1_slotsClosing 38 = .ok (.ifCond .eq 14, 3) := by decide +kernel
theorem dX1_slotsClosing_41 : decode cX1_slotsClosing 41 = .ok (.iconst 1, 1) := by decide +kernel
theorem dX1_slotsClosing_42 : decode cX1_slotsClosing 42 = .ok (.aload_n 0, 1) := by decide +kernel
theorem dX1_slotsClosing_43 : decode cX1_slotsClosing 43 = .ok (.getfield 22, 3) := by decide +kernel
theorem dX1_slotsClosing_46 : decode cX1_slotsClosing 46 = .ok (.iload_n 3, 1) := by decide +kernel
theorem dX1_slotsClosing_47 : decode cX1_slotsClosing 47 = .ok (.iaload, 1) := by decide +kernel
theorem dX1_slotsClosing_48 : decode cX1_slotsClosing 48 = .ok (.ishl, 1) := by decide +kernel
theorem dX1_slotsClosing_49 : decode cX1_slotsClosing 49 = .ok (.goto 4, 3) := by decide +kernel
theorem dX1_slotsClosing_52 : decode cX1_slotsClosing 52 = .ok (.iconst 0, 1) := by decide +kernel
theorem dX1_slotsClosing_53 : decode cX1_slotsClosing 53 = .ok (.ior, 1) := by decide +kernel
theorem dX1_slotsClosing_54 : decode cX1_slotsClosing 54 = .ok (.istore_n 2, 1) := by decide +kernel
theorem dX1_slotsClosing_55 : decode cX1_slotsClosing 55 = .ok (.iinc 3 1, 3) := by decide +kernel
theorem dX1_slotsClosing_58 : decode cX1_slotsClosing 58 = .ok (.goto (-54), 3) := by decide +kernel
theorem dX1_slotsClosing_61 : decode cX1_slotsClosing 61 = .ok (.iload_n 2, 1) := by decide +kernel
theorem dX1_slotsClosing_62 : decode cX1_slotsClosing 62 = .ok (.ireturn, 1) := by decide +kernel
theorem dX1_slotsMet_0 : decode cX1_slotsMet 0 = .ok (.iconst 0, 1) := by decide +kernel
theorem dX1_slotsMet_1 : decode cX1_slotsMet 1 = .ok (.istore_n 2, 1) := by decide +kernel
theorem dX1_slotsMet_2 : decode cX1_slotsMet 2 = .ok (.iconst 0, 1) := by decide +kernel
theorem dX1_slotsMet_3 : decode cX1_slotsMet 3 = .ok (.istore_n 3, 1) := by decide +kernel
theorem dX1_slotsMet_4 : decode cX1_slotsMet 4 = .ok (.iload_n 3, 1) := by decide +kernel
theorem dX1_slotsMet_5 : decode cX1_slotsMet 5 = .ok (.aload_n 0, 1) := by decide +kernel
theorem dX1_slotsMet_6 : decode cX1_slotsMet 6 = .ok (.getfield 31, 3) := by decide +kernel
theorem dX1_slotsMet_9 : decode cX1_slotsMet 9 = .ok (.if_icmp .ge 38, 3) := by decide +kernel
theorem dX1_slotsMet_12 : decode cX1_slotsMet 12 = .ok (.iload_n 2, 1) := by decide +kernel
theorem dX1_slotsMet_13 : decode cX1_slotsMet 13 = .ok (.aload_n 0, 1) := by decide +kernel
theorem dX1_slotsMet_14 : decode cX1_slotsMet 14 = .ok (.getfield 9, 3) := by decide +kernel
theorem dX1_slotsMet_17 : decode cX1_slotsMet 17 = .ok (.iload_n 3, 1) := by decide +kernel
theorem dX1_slotsMet_18 : decode cX1_slotsMet 18 = .ok (.iaload, 1) := by decide +kernel
theorem dX1_slotsMet_19 : decode cX1_slotsMet 19 = .ok (.iload_n 1, 1) := by decide +kernel
theorem dX1_slotsMet_20 : decode cX1_slotsMet 20 = .ok (.ishr, 1) := by decide +kernel
theorem dX1_slotsMet_21 : decode cX1_slotsMet 21 = .ok (.iconst 1, 1) := by decide +kernel
theorem dX1_slotsMet_22 : decode cX1_slotsMet 22 = .ok (.iand, 1) := by decide +kernel
theorem dX1_slotsMet_23 : decode cX1_slotsMet 23 = .ok (.iconst 1, 1) := by decide +kernel
theorem dX1_slotsMet_24 : decode cX1_slotsMet 24 = .ok (.if_icmp .ne 14, 3) := by decide +kernel
theorem dX1_slotsMet_27 : decode cX1_slotsMet 27 = .ok (.iconst 1, 1) := by decide +kernel
theorem dX1_slotsMet_28 : decode cX1_slotsMet 28 = .ok (.aload_n 0, 1) := by decide +kernel
theorem dX1_slotsMet_29 : decode cX1_slotsMet 29 = .ok (.getfield 22, 3) := by decide +kernel
theorem dX1_slotsMet_32 : decode cX1_slotsMet 32 = .ok (.iload_n 3, 1) := by decide +kernel
theorem dX1_slotsMet_33 : decode cX1_slotsMet 33 = .ok (.iaload, 1) := by decide +kernel
theorem dX1_slotsMet_34 : decode cX1_slotsMet 34 = .ok (.ishl, 1) := by decide +kernel
theorem dX1_slotsMet_35 : decode cX1_slotsMet 35 = .ok (.goto 4, 3) := by decide +kernel
theorem dX1_slotsMet_38 : decode cX1_slotsMet 38 = .ok (.iconst 0, 1) := by decide +kernel
theorem dX1_slotsMet_39 : decode cX1_slotsMet 39 = .ok (.ior, 1) := by decide +kernel
theorem dX1_slotsMet_40 : decode cX1_slotsMet 40 = .ok (.istore_n 2, 1) := by decide +kernel
theorem dX1_slotsMet_41 : decode cX1_slotsMet 41 = .ok (.iinc 3 1, 3) := by decide +kernel
theorem dX1_slotsMet_44 : decode cX1_slotsMet 44 = .ok (.goto (-40), 3) := by decide +kernel
theorem dX1_slotsMet_47 : decode cX1_slotsMet 47 = .ok (.iload_n 2, 1) := by decide +kernel
theorem dX1_slotsMet_48 : decode cX1_slotsMet 48 = .ok (.ireturn, 1) := by decide +kernel
theorem dX1_raiseOrNot_0 : decode cX1_raiseOrNot 0 = .ok (.iload 4, 2) := by decide +kernel
theorem dX1_raiseOrNot_2 : decode cX1_raiseOrNot 2 = .ok (.iconst 1, 1) := by decide +kernel
theorem dX1_raiseOrNot_3 : decode cX1_raiseOrNot 3 = .ok (.isub, 1) := by decide +kernel
theorem dX1_raiseOrNot_4 : decode cX1_raiseOrNot 4 = .ok (.istore 5, 2) := by decide +kernel
theorem dX1_raiseOrNot_6 : decode cX1_raiseOrNot 6 = .ok (.iload 5, 2) := by decide +kernel
theorem dX1_raiseOrNot_8 : decode cX1_raiseOrNot 8 = .ok (.ifCond .lt 65, 3) := by decide +kernel
theorem dX1_raiseOrNot_11 : decode cX1_raiseOrNot 11 = .ok (.aload_n 0, 1) := by decide +kernel
theorem dX1_raiseOrNot_12 : decode cX1_raiseOrNot 12 = .ok (.getfield 28, 3) := by decide +kernel
theorem dX1_raiseOrNot_15 : decode cX1_raiseOrNot 15 = .ok (.iload 5, 2) := by decide +kernel
theorem dX1_raiseOrNot_17 : decode cX1_raiseOrNot 17 = .ok (.laload, 1) := by decide +kernel
theorem dX1_raiseOrNot_18 : decode cX1_raiseOrNot 18 = .ok (.lstore 6, 2) := by decide +kernel
theorem dX1_raiseOrNot_20 : decode cX1_raiseOrNot 20 = .ok (.lload 6, 2) := by decide +kernel
theorem dX1_raiseOrNot_22 : decode cX1_raiseOrNot 22 = .ok (.lconst 0, 1) := by decide +kernel
theorem dX1_raiseOrNot_23 : decode cX1_raiseOrNot 23 = .ok (.lcmp, 1) := by decide +kernel
theorem dX1_raiseOrNot_24 : decode cX1_raiseOrNot 24 = .ok (.ifCond .eq 43, 3) := by decide +kernel
theorem dX1_raiseOrNot_27 : decode cX1_raiseOrNot 27 = .ok (.aload_n 0, 1) := by decide +kernel
theorem dX1_raiseOrNot_28 : decode cX1_raiseOrNot 28 = .ok (.getfield 28, 3) := by decide +kernel
theorem dX1_raiseOrNot_31 : decode cX1_raiseOrNot 31 = .ok (.iload 5, 2) := by decide +kernel
theorem dX1_raiseOrNot_33 : decode cX1_raiseOrNot 33 = .ok (.lload 6, 2) := by decide +kernel
theorem dX1_raiseOrNot_35 : decode cX1_raiseOrNot 35 = .ok (.lload_n 2, 1) := by decide +kernel
theorem dX1_raiseOrNot_36 : decode cX1_raiseOrNot 36 = .ok (.lmul, 1) := by decide +kernel
theorem dX1_raiseOrNot_37 : decode cX1_raiseOrNot 37 = .ok (.ldc2_w 104, 3) := by decide +kernel
theorem dX1_raiseOrNot_40 : decode cX1_raiseOrNot 40 = .ok (.lrem, 1) := by decide +kernel
theorem dX1_raiseOrNot_41 : decode cX1_raiseOrNot 41 = .ok (.lastore, 1) := by decide +kernel
theorem dX1_raiseOrNot_42 : decode cX1_raiseOrNot 42 = .ok (.aload_n 0, 1) := by decide +kernel
theorem dX1_raiseOrNot_43 : decode cX1_raiseOrNot 43 = .ok (.getfield 28, 3) := by decide +kernel
theorem dX1_raiseOrNot_46 : decode cX1_raiseOrNot 46 = .ok (.iload 5, 2) := by decide +kernel
theorem dX1_raiseOrNot_48 : decode cX1_raiseOrNot 48 = .ok (.iload_n 1, 1) := by decide +kernel
theorem dX1_raiseOrNot_49 : decode cX1_raiseOrNot 49 = .ok (.ior, 1) := by decide +kernel
theorem dX1_raiseOrNot_50 : decode cX1_raiseOrNot 50 = .ok (.aload_n 0, 1) := by decide +kernel
theorem dX1_raiseOrNot_51 : decode cX1_raiseOrNot 51 = .ok (.getfield 28, 3) := by decide +kernel
theorem dX1_raiseOrNot_54 : decode cX1_raiseOrNot 54 = .ok (.iload 5, 2) := by decide +kernel
theorem dX1_raiseOrNot_56 : decode cX1_raiseOrNot 56 = .ok (.iload_n 1, 1) := by decide +kernel
theorem dX1_raiseOrNot_57 : decode cX1_raiseOrNot 57 = .ok (.ior, 1) := by decide +kernel
theorem dX1_raiseOrNot_58 : decode cX1_raiseOrNot 58 = .ok (.laload, 1) := by decide +kernel
theorem dX1_raiseOrNot_59 : decode cX1_raiseOrNot 59 = .ok (.lload 6, 2) := by decide +kernel
theorem dX1_raiseOrNot_61 : decode cX1_raiseOrNot 61 = .ok (.ladd, 1) := by decide +kernel
theorem dX1_raiseOrNot_62 : decode cX1_raiseOrNot 62 = .ok (.ldc2_w 104, 3) := by decide +kernel
theorem dX1_raiseOrNot_65 : decode cX1_raiseOrNot 65 = .ok (.lrem, 1) := by decide +kernel
theorem dX1_raiseOrNot_66 : decode cX1_raiseOrNot 66 = .ok (.lastore, 1) := by decide +kernel
theorem dX1_raiseOrNot_67 : decode cX1_raiseOrNot 67 = .ok (.iinc 5 (-1), 3) := by decide +kernel
theorem dX1_raiseOrNot_70 : decode cX1_raiseOrNot 70 = .ok (.goto (-64), 3) := by decide +kernel
theorem dX1_raiseOrNot_73 : decode cX1_raiseOrNot 73 = .ok (.return_, 1) := by decide +kernel
theorem dX1_closeSlots_0 : decode cX1_closeSlots 0 = .ok (.iload_n 1, 1) := by decide +kernel
theorem dX1_closeSlots_1 : decode cX1_closeSlots 1 = .ok (.ifCond .ne 4, 3) := by decide +kernel
theorem dX1_closeSlots_4 : decode cX1_closeSlots 4 = .ok (.return_, 1) := by decide +kernel
theorem dX1_closeSlots_5 : decode cX1_closeSlots 5 = .ok (.iconst 0, 1) := by decide +kernel
theorem dX1_closeSlots_6 : decode cX1_closeSlots 6 = .ok (.istore_n 3, 1) := by decide +kernel
theorem dX1_closeSlots_7 : decode cX1_closeSlots 7 = .ok (.iload_n 3, 1) := by decide +kernel
theorem dX1_closeSlots_8 : decode cX1_closeSlots 8 = .ok (.iload_n 2, 1) := by decide +kernel
theorem dX1_closeSlots_9 : decode cX1_closeSlots 9 = .ok (.if_icmp .ge 33, 3) := by decide +kernel
theorem dX1_closeSlots_12 : decode cX1_closeSlots 12 = .ok (.aload_n 0, 1) := by decide +kernel
theorem dX1_closeSlots_13 : decode cX1_closeSlots 13 = .ok (.getfield 28, 3) := by decide +kernel
theorem dX1_closeSlots_16 : decode cX1_closeSlots 16 = .ok (.iload_n 3, 1) := by decide +kernel
theorem dX1_closeSlots_17 : decode cX1_closeSlots 17 = .ok (.iload_n 3, 1) := by decide +kernel
theorem dX1_closeSlots_18 : decode cX1_closeSlots 18 = .ok (.iload_n 1, 1) := by decide +kernel
theorem dX1_closeSlots_19 : decode cX1_closeSlots 19 = .ok (.iand, 1) := by decide +kernel
theorem dX1_closeSlots_20 : decode cX1_closeSlots 20 = .ok (.ifCond .ne 14, 3) := by decide +kernel
theorem dX1_closeSlots_23 : decode cX1_closeSlots 23 = .ok (.aload_n 0, 1) := by decide +kernel
theorem dX1_closeSlots_24 : decode cX1_closeSlots 24 = .ok (.getfield 28, 3) := by decide +kernel
theorem dX1_closeSlots_27 : decode cX1_closeSlots 27 = .ok (.iload_n 3, 1) := by decide +kernel
theorem dX1_closeSlots_28 : decode cX1_closeSlots 28 = .ok (.iload_n 1, 1) := by decide +kernel
theorem dX1_closeSlots_29 : decode cX1_closeSlots 29 = .ok (.ior, 1) := by decide +kernel
theorem dX1_closeSlots_30 : decode cX1_closeSlots 30 = .ok (.laload, 1) := by decide +kernel
theorem dX1_closeSlots_31 : decode cX1_closeSlots 31 = .ok (.goto 4, 3) := by decide +kernel
theorem dX1_closeSlots_34 : decode cX1_closeSlots 34 = .ok (.lconst 0, 1) := by decide +kernel
theorem dX1_closeSlots_35 : decode cX1_closeSlots 35 = .ok (.lastore, 1) := by decide +kernel
theorem dX1_closeSlots_36 : decode cX1_closeSlots 36 = .ok (.iinc 3 1, 3) := by decide +kernel
theorem dX1_closeSlots_39 : decode cX1_closeSlots 39 = .ok (.goto (-32), 3) := by decide +kernel
theorem dX1_closeSlots_42 : decode cX1_closeSlots 42 = .ok (.return_, 1) := by decide +kernel
theorem dX2_init_0 : decode cX2_init 0 = .ok (.aload_n 0, 1) := by decide +kernel
theorem dX2_init_1 : decode cX2_init 1 = .ok (.invokespecial 3, 3) := by decide +kernel
theorem dX2_init_4 : decode cX2_init 4 = .ok (.aload_n 0, 1) := by decide +kernel
theorem dX2_init_5 : decode cX2_init 5 = .ok (.bipush 60, 2) := by decide +kernel
theorem dX2_init_7 : decode cX2_init 7 = .ok (.newarray .int, 2) := by decide +kernel
theorem dX2_init_9 : decode cX2_init 9 = .ok (.putfield 9, 3) := by decide +kernel
theorem dX2_init_12 : decode cX2_init 12 = .ok (.return_, 1) := by decide +kernel
theorem dX2_work_0 : decode cX2_work 0 = .ok (.aload_n 0, 1) := by decide +kernel
theorem dX2_work_1 : decode cX2_work 1 = .ok (.iconst 0, 1) := by decide +kernel
theorem dX2_work_2 : decode cX2_work 2 = .ok (.putfield 15, 3) := by decide +kernel
theorem dX2_work_5 : decode cX2_work 5 = .ok (.aload_n 0, 1) := by decide +kernel
theorem dX2_work_6 : decode cX2_work 6 = .ok (.iconst 0, 1) := by decide +kernel
theorem dX2_work_7 : decode cX2_work 7 = .ok (.putfield 19, 3) := by decide +kernel
theorem dX2_work_10 : decode cX2_work 10 = .ok (.aload_n 0, 1) := by decide +kernel
theorem dX2_work_11 : decode cX2_work 11 = .ok (.iconst 0, 1) := by decide +kernel
theorem dX2_work_12 : decode cX2_work 12 = .ok (.putfield 22, 3) := by decide +kernel
theorem dX2_work_15 : decode cX2_work 15 = .ok (.aload_n 0, 1) := by decide +kernel
theorem dX2_work_16 : decode cX2_work 16 = .ok (.iconst 0, 1) := by decide +kernel
theorem dX2_work_17 : decode cX2_work 17 = .ok (.putfield 25, 3) := by decide +kernel
theorem dX2_work_20 : decode cX2_work 20 = .ok (.aload_n 0, 1) := by decide +kernel
theorem dX2_work_21 : decode cX2_work 21 = .ok (.iload 4, 2) := by decide +kernel
theorem dX2_work_23 : decode cX2_work 23 = .ok (.putfield 28, 3) := by decide +kernel
theorem dX2_work_26 : decode cX2_work 26 = .ok (.iconst 0, 1) := by decide +kernel
theorem dX2_work_27 : decode cX2_work 27 = .ok (.istore 5, 2) := by decide +kernel
theorem dX2_work_29 : decode cX2_work 29 = .ok (.iconst 0, 1) := by decide +kernel
theorem dX2_work_30 : decode cX2_work 30 = .ok (.istore 6, 2) := by decide +kernel
theorem dX2_work_32 : decode cX2_work 32 = .ok (.iload 6, 2) := by decide +kernel
theorem dX2_work_34 : decode cX2_work 34 = .ok (.ldc 31, 2) := by decide +kernel
theorem dX2_work_36 : decode cX2_work 36 = .ok (.if_icmp .ge 79, 3) := by decide +kernel
theorem dX2_work_39 : decode cX2_work 39 = .ok (.iload 5, 2) := by decide +kernel
theorem dX2_work_41 : decode cX2_work 41 = .ok (.aload_n 1, 1) := by decide +kernel
theorem dX2_work_42 : decode cX2_work 42 = .ok (.getfield 32, 3) := by decide +kernel
theorem dX2_work_45 : decode cX2_work 45 = .ok (.if_icmp .ge 70, 3) := by decide +kernel
theorem dX2_work_48 : decode cX2_work 48 = .ok (.aload_n 1, 1) := by decide +kernel
theorem dX2_work_49 : decode cX2_work 49 = .ok (.getfield 37, 3) := by decide +kernel
theorem dX2_work_52 : decode cX2_work 52 = .ok (.iload 5, 2) := by decide +kernel
theorem dX2_work_54 : decode cX2_work 54 = .ok (.iaload, 1) := by decide +kernel
theorem dX2_work_55 : decode cX2_work 55 = .ok (.bipush 16, 2) := by decide +kernel
theorem dX2_work_57 : decode cX2_work 57 = .ok (.if_icmp .ne 15, 3) := by decide +kernel
theorem dX2_work_60 : decode cX2_work 60 = .ok (.aload_n 0, 1) := by decide +kernel
theorem dX2_work_61 : decode cX2_work 61 = .ok (.aload_n 1, 1) := by decide +kernel
theorem dX2_work_62 : decode cX2_work 62 = .ok (.iload 5, 2) := by decide +kernel
theorem dX2_work_64 : decode cX2_work 64 = .ok (.invokevirtual 40, 3) := by decide +kernel
theorem dX2_work_67 : decode cX2_work 67 = .ok (.istore 5, 2) := by decide +kernel
theorem dX2_work_69 : decode cX2_work 69 = .ok (.goto 40, 3) := by decide +kernel
theorem dX2_work_72 : decode cX2_work 72 = .ok (.aload_n 0, 1) := by decide +kernel
theorem dX2_work_73 : decode cX2_work 73 = .ok (.getfield 15, 3) := by decide +kernel
theorem dX2_work_76 : decode cX2_work 76 = .ok (.sipush 400, 3) := by decide +kernel
theorem dX2_work_79 : decode cX2_work 79 = .ok (.if_icmp .lt 9, 3) := by decide +kernel
theorem dX2_work_82 : decode cX2_work 82 = .ok (.aload_n 0, 1) := by decide +kernel
theorem dX2_work_83 : decode cX2_work 83 = .ok (.iconst 1, 1) := by decide +kernel
theorem dX2_work_84 : decode cX2_work 84 = .ok (.putfield 25, 3) := by decide +kernel
theorem dX2_work_87 : decode cX2_work 87 = .ok (.return_, 1) := by decide +kernel
theorem dX2_work_88 : decode cX2_work 88 = .ok (.aload_n 0, 1) := by decide +kernel
theorem dX2_work_89 : decode cX2_work 89 = .ok (.dup, 1) := by decide +kernel
theorem dX2_work_90 : decode cX2_work 90 = .ok (.getfield 15, 3) := by decide +kernel
theorem dX2_work_93 : decode cX2_work 93 = .ok (.iconst 1, 1) := by decide +kernel
theorem dX2_work_94 : decode cX2_work 94 = .ok (.iadd, 1) := by decide +kernel
theorem dX2_work_95 : decode cX2_work 95 = .ok (.putfield 15, 3) := by decide +kernel
theorem dX2_work_98 : decode cX2_work 98 = .ok (.aload_n 0, 1) := by decide +kernel
theorem dX2_work_99 : decode cX2_work 99 = .ok (.aload_n 1, 1) := by decide +kernel
theorem dX2_work_100 : decode cX2_work 100 = .ok (.aload_n 2, 1) := by decide +kernel
theorem dX2_work_101 : decode cX2_work 101 = .ok (.aload_n 3, 1) := by decide +kernel
theorem dX2_work_102 : decode cX2_work 102 = .ok (.iload 5, 2) := by decide +kernel
theorem dX2_work_104 : decode cX2_work 104 = .ok (.invokevirtual 44, 3) := by decide +kernel
theorem dX2_work_107 : decode cX2_work 107 = .ok (.istore 5, 2) := by decide +kernel
theorem dX2_work_109 : decode cX2_work 109 = .ok (.iinc 6 1, 3) := by decide +kernel
theorem dX2_work_112 : decode cX2_work 112 = .ok (.goto (-80), 3) := by decide +kernel
theorem dX2_work_115 : decode cX2_work 115 = .ok (.return_, 1) := by decide +kernel
theorem dX2_behindEnd_0 : decode cX2_behindEnd 0 = .ok (.aload_n 1, 1) := by decide +kernel
theorem dX2_behindEnd_1 : decode cX2_behindEnd 1 = .ok (.getfield 48, 3) := by decide +kernel
theorem dX2_behindEnd_4 : decode cX2_behindEnd 4 = .ok (.iload_n 2, 1) := by decide +kernel
theorem dX2_behindEnd_5 : decode cX2_behindEnd 5 = .ok (.iaload, 1) := by decide +kernel
theorem dX2_behindEnd_6 : decode cX2_behindEnd 6 = .ok (.istore_n 3, 1) := by decide +kernel
theorem dX2_behindEnd_7 : decode cX2_behindEnd 7 = .ok (.aload_n 1, 1) := by decide +kernel
theorem dX2_behindEnd_8 : decode cX2_behindEnd 8 = .ok (.getfield 37, 3) := by decide +kernel
theorem dX2_behindEnd_11 : decode cX2_behindEnd 11 = .ok (.iload_n 3, 1) := by decide +kernel
theorem dX2_behindEnd_12 : decode cX2_behindEnd 12 = .ok (.iaload, 1) := by decide +kernel
theorem dX2_behindEnd_13 : decode cX2_behindEnd 13 = .ok (.bipush 15, 2) := by decide +kernel
theorem dX2_behindEnd_15 : decode cX2_behindEnd 15 = .ok (.if_icmp .ne 26, 3) := by decide +kernel
theorem dX2_behindEnd_18 : decode cX2_behindEnd 18 = .ok (.aload_n 0, 1) := by decide +kernel
theorem dX2_behindEnd_19 : decode cX2_behindEnd 19 = .ok (.getfield 9, 3) := by decide +kernel
theorem dX2_behindEnd_22 : decode cX2_behindEnd 22 = .ok (.iload_n 3, 1) := by decide +kernel
theorem dX2_behindEnd_23 : decode cX2_behindEnd 23 = .ok (.dup2, 1) := by decide +kernel
theorem dX2_behindEnd_24 : decode cX2_behindEnd 24 = .ok (.iaload, 1) := by decide +kernel
theorem dX2_behindEnd_25 : decode cX2_behindEnd 25 = .ok (.iconst 1, 1) := by decide +kernel
theorem dX2_behindEnd_26 : decode cX2_behindEnd 26 = .ok (.isub, 1) := by decide +kernel
theorem dX2_behindEnd_27 : decode cX2_behindEnd 27 = .ok (.iastore, 1) := by decide +kernel
theorem dX2_behindEnd_28 : decode cX2_behindEnd 28 = .ok (.aload_n 0, 1) := by decide +kernel
theorem dX2_behindEnd_29 : decode cX2_behindEnd 29 = .ok (.getfield 9, 3) := by decide +kernel
theorem dX2_behindEnd_32 : decode cX2_behindEnd 32 = .ok (.iload_n 3, 1) := by decide +kernel
theorem dX2_behindEnd_33 : decode cX2_behindEnd 33 = .ok (.iaload, 1) := by decide +kernel
theorem dX2_behindEnd_34 : decode cX2_behindEnd 34 = .ok (.ifCond .le 7, 3) := by decide +kernel
theorem dX2_behindEnd_37 : decode cX2_behindEnd 37 = .ok (.iload_n 3, 1) := by decide +kernel
theorem dX2_behindEnd_38 : decode cX2_behindEnd 38 = .ok (.iconst 1, 1) := by decide +kernel
theorem dX2_behindEnd_39 : decode cX2_behindEnd 39 = .ok (.iadd, 1) := by decide +kernel
theorem dX2_behindEnd_40 : decode cX2_behindEnd 40 = .ok (.ireturn, 1) := by decide +kernel
theorem dX2_behindEnd_41 : decode cX2_behindEnd 41 = .ok (.iload_n 2, 1) := by decide +kernel
theorem dX2_behindEnd_42 : decode cX2_behindEnd 42 = .ok (.iconst 1, 1) := by decide +kernel
theorem dX2_behindEnd_43 : decode cX2_behindEnd 43 = .ok (.iadd, 1) := by decide +kernel
theorem dX2_behindEnd_44 : decode cX2_behindEnd 44 = .ok (.ireturn, 1) := by decide +kernel
theorem dX2_behindStep_0 : decode cX2_behindStep 0 = .ok (.aload_n 1, 1) := by decide +kernel
theorem dX2_behindStep_1 : decode cX2_behindStep 1 = .ok (.getfield 51, 3) := by decide +kernel
theorem dX2_behindStep_4 : decode cX2_behindStep 4 = .ok (.iload 4, 2) := by decide +kernel
theorem dX2_behindStep_6 : decode cX2_behindStep 6 = .ok (.iaload, 1) := by decide +kernel
theorem dX2_behindStep_7 : decode cX2_behindStep 7 = .ok (.istore 5, 2) := by decide +kernel
theorem dX2_behindStep_9 : decode cX2_behindStep 9 = .ok (.aload_n 1, 1) := by decide +kernel
theorem dX2_behindStep_10 : decode cX2_behindStep 10 = .ok (.getfield 37, 3) := by decide +kernel
theorem dX2_behindStep_13 : decode cX2_behindStep 13 = .ok (.iload 4, 2) := by decide +kernel
theorem dX2_behindStep_15 : decode cX2_behindStep 15 = .ok (.iaload, 1) := by decide +kernel
theorem dX2_behindStep_16 : decode cX2_behindStep 16 = .ok (.tableswitch 181 6 15 #[56, 84, 181, 112, 133, 181, 181, 181, 181, 162], 56) := by decide +kernel
theorem dX2_behindStep_72 : decode cX2_behindStep 72 = .ok (.aload_n 2, 1) := by decide +kernel
theorem dX2_behindStep_73 : decode cX2_behindStep 73 = .ok (.iload 5, 2) := by decide +kernel
theorem dX2_behindStep_75 : decode cX2_behindStep 75 = .ok (.invokevirtual 54, 3) := by decide +kernel
theorem dX2_behindStep_78 : decode cX2_behindStep 78 = .ok (.ifCond .eq 17, 3) := by decide +kernel
theorem dX2_behindStep_81 : decode cX2_behindStep 81 = .ok (.aload_n 0, 1) := by decide +kernel
theorem dX2_behindStep_82 : decode cX2_behindStep 82 = .ok (.aload_n 3, 1) := by decide +kernel
theorem dX2_behindStep_83 : decode cX2_behindStep 83 = .ok (.iload 5, 2) := by decide +kernel
theorem dX2_behindStep_85 : decode cX2_behindStep 85 = .ok (.aload_n 1, 1) := by decide +kernel
theorem dX2_behindStep_86 : decode cX2_behindStep 86 = .ok (.getfield 60, 3) := by decide +kernel
theorem dX2_behindStep_89 : decode cX2_behindStep 89 = .ok (.iload 4, 2) := by decide +kernel
theorem dX2_behindStep_91 : decode cX2_behindStep 91 = .ok (.iaload, 1) := by decide +kernel
theorem dX2_behindStep_92 : decode cX2_behindStep 92 = .ok (.invokevirtual 63, 3) := by decide +kernel
theorem dX2_behindStep_95 : decode cX2_behindStep 95 = .ok (.iload 4, 2) := by decide +kernel
theorem dX2_behindStep_97 : decode cX2_behindStep 97 = .ok (.iconst 1, 1) := by decide +kernel
theorem dX2_behindStep_98 : decode cX2_behindStep 98 = .ok (.iadd, 1) := by decide +kernel
theorem dX2_behindStep_99 : decode cX2_behindStep 99 = .ok (.ireturn, 1) := by decide +kernel
theorem dX2_behindStep_100 : decode cX2_behindStep 100 = .ok (.aload_n 2, 1) := by decide +kernel
theorem dX2_behindStep_101 : decode cX2_behindStep 101 = .ok (.iload 5, 2) := by decide +kernel
theorem dX2_behindStep_103 : decode cX2_behindStep 103 = .ok (.invokevirtual 54, 3) := by decide +kernel
theorem dX2_behindStep_106 : decode cX2_behindStep 106 = .ok (.ifCond .eq 17, 3) := by decide +kernel
theorem dX2_behindStep_109 : decode cX2_behindStep 109 = .ok (.aload_n 0, 1) := by decide +kernel
theorem dX2_behindStep_110 : decode cX2_behindStep 110 = .ok (.aload_n 3, 1) := by decide +kernel
theorem dX2_behindStep_111 : decode cX2_behindStep 111 = .ok (.iload 5, 2) := by decide +kernel
theorem dX2_behindStep_113 : decode cX2_behindStep 113 = .ok (.aload_n 1, 1) := by decide +kernel
theorem dX2_behindStep_114 : decode cX2_behindStep 114 = .ok (.getfield 60, 3) := by decide +kernel
theorem dX2_behindStep_117 : decode cX2_behindStep 117 = .ok (.iload 4, 2) := by decide +kernel
theorem dX2_behindStep_119 : decode cX2_behindStep 119 = .ok (.iaload, 1) := by decide +kernel
theorem dX2_behindStep_120 : decode cX2_behindStep 120 = .ok (.invokevirtual 67, 3) := by decide +kernel
theorem dX2_behindStep_123 : decode cX2_behindStep 123 = .ok (.iload 4, 2) := by decide +kernel
theorem dX2_behindStep_125 : decode cX2_behindStep 125 = .ok (.iconst 1, 1) := by decide +kernel
theorem dX2_behindStep_126 : decode cX2_behindStep 126 = .ok (.iadd, 1) := by decide +kernel
theorem dX2_behindStep_127 : decode cX2_behindStep 127 = .ok (.ireturn, 1) := by decide +kernel
theorem dX2_behindStep_128 : decode cX2_behindStep 128 = .ok (.aload_n 0, 1) := by decide +kernel
theorem dX2_behindStep_129 : decode cX2_behindStep 129 = .ok (.aload_n 3, 1) := by decide +kernel
theorem dX2_behindStep_130 : decode cX2_behindStep 130 = .ok (.aload_n 2, 1) := by decide +kernel
theorem dX2_behindStep_131 : decode cX2_behindStep 131 = .ok (.getfield 70, 3) := by decide +kernel
theorem dX2_behindStep_134 : decode cX2_behindStep 134 = .ok (.aload_n 1, 1) := by decide +kernel
theorem dX2_behindStep_135 : decode cX2_behindStep 135 = .ok (.getfield 60, 3) := by decide +kernel
theorem dX2_behindStep_138 : decode cX2_behindStep 138 = .ok (.iload 4, 2) := by decide +kernel
theorem dX2_behindStep_140 : decode cX2_behindStep 140 = .ok (.iaload, 1) := by decide +kernel
theorem dX2_behindStep_141 : decode cX2_behindStep 141 = .ok (.invokevirtual 73, 3) := by decide +kernel
theorem dX2_behindStep_144 : decode cX2_behindStep 144 = .ok (.iload 4, 2) := by decide +kernel
theorem dX2_behindStep_146 : decode cX2_behindStep 146 = .ok (.iconst 1, 1) := by decide +kernel
theorem dX2_behindStep_147 : decode cX2_behindStep 147 = .ok (.iadd, 1) := by decide +kernel
theorem dX2_behindStep_148 : decode cX2_behindStep 148 = .ok (.ireturn, 1) := by decide +kernel
theorem dX2_behindStep_149 : decode cX2_behindStep 149 = .ok (.aload_n 0, 1) := by decide +kernel
theorem dX2_behindStep_150 : decode cX2_behindStep 150 = .ok (.aload_n 1, 1) := by decide +kernel
theorem dX2_behindStep_151 : decode cX2_behindStep 151 = .ok (.aload_n 2, 1) := by decide +kernel
theorem dX2_behindStep_152 : decode cX2_behindStep 152 = .ok (.aload_n 3, 1) := by decide +kernel
theorem dX2_behindStep_153 : decode cX2_behindStep 153 = .ok (.iload 4, 2) := by decide +kernel
theorem dX2_behindStep_155 : decode cX2_behindStep 155 = .ok (.invokevirtual 76, 3) := by decide +kernel
theorem dX2_behindStep_158 : decode cX2_behindStep 158 = .ok (.ifCond .eq 10, 3) := by decide +kernel
theorem dX2_behindStep_161 : decode cX2_behindStep 161 = .ok (.iload 4, 2) := by decide +kernel
theorem dX2_behindStep_163 : decode cX2_behindStep 163 = .ok (.iconst 1, 1) := by decide +kernel
theorem dX2_behindStep_164 : decode cX2_behindStep 164 = .ok (.iadd, 1) := by decide +kernel
theorem dX2_behindStep_165 : decode cX2_behindStep 165 = .ok (.goto 12, 3) := by decide +kernel
theorem dX2_behindStep_168 : decode cX2_behindStep 168 = .ok (.aload_n 1, 1) := by decide +kernel
theorem dX2_behindStep_169 : decode cX2_behindStep 169 = .ok (.getfield 48, 3) := by decide +kernel
theorem dX2_behindStep_172 : decode cX2_behindStep 172 = .ok (.iload 4, 2) := by decide +kernel
theorem dX2_behindStep_174 : decode cX2_behindStep 174 = .ok (.iaload, 1) := by decide +kernel
theorem dX2_behindStep_175 : decode cX2_behindStep 175 = .ok (.iconst 1, 1) := by decide +kernel
theorem dX2_behindStep_176 : decode cX2_behindStep 176 = .ok (.iadd, 1) := by decide +kernel
theorem dX2_behindStep_177 : decode cX2_behindStep 177 = .ok (.ireturn, 1) := by decide +kernel
theorem dX2_behindStep_178 : decode cX2_behindStep 178 = .ok (.aload_n 0, 1) := by decide +kernel
theorem dX2_behindStep_179 : decode cX2_behindStep 179 = .ok (.getfield 9, 3) := by decide +kernel
theorem dX2_behindStep_182 : decode cX2_behindStep 182 = .ok (.iload 4, 2) := by decide +kernel
theorem dX2_behindStep_184 : decode cX2_behindStep 184 = .ok (.aload_n 1, 1) := by decide +kernel
theorem dX2_behindStep_185 : decode cX2_behindStep 185 = .ok (.getfield 60, 3) := by decide +kernel
theorem dX2_behindStep_188 : decode cX2_behindStep 188 = .ok (.iload 4, 2) := by decide +kernel
theorem dX2_behindStep_190 : decode cX2_behindStep 190 = .ok (.iaload, 1) := by decide +kernel
theorem dX2_behindStep_191 : decode cX2_behindStep 191 = .ok (.iastore, 1) := by decide +kernel
theorem dX2_behindStep_192 : decode cX2_behindStep 192 = .ok (.iload 4, 2) := by decide +kernel
theorem dX2_behindStep_194 : decode cX2_behindStep 194 = .ok (.iconst 1, 1) := by decide +kernel
theorem dX2_behindStep_195 : decode cX2_behindStep 195 = .ok (.iadd, 1) := by decide +kernel
theorem dX2_behindStep_196 : decode cX2_behindStep 196 = .ok (.ireturn, 1) := by decide +kernel
theorem dX2_behindStep_197 : decode cX2_behindStep 197 = .ok (.aload_n 1, 1) := by decide +kernel
theorem dX2_behindStep_198 : decode cX2_behindStep 198 = .ok (.getfield 32, 3) := by decide +kernel
theorem dX2_behindStep_201 : decode cX2_behindStep 201 = .ok (.ireturn, 1) := by decide +kernel
theorem dX2_lay_0 : decode cX2_lay 0 = .ok (.iload_n 3, 1) := by decide +kernel
theorem dX2_lay_1 : decode cX2_lay 1 = .ok (.bipush 99, 2) := by decide +kernel
theorem dX2_lay_3 : decode cX2_lay 3 = .ok (.aload_n 1, 1) := by decide +kernel
theorem dX2_lay_4 : decode cX2_lay 4 = .ok (.iload_n 2, 1) := by decide +kernel
theorem dX2_lay_5 : decode cX2_lay 5 = .ok (.iaload, 1) := by decide +kernel
theorem dX2_lay_6 : decode cX2_lay 6 = .ok (.isub, 1) := by decide +kernel
theorem dX2_lay_7 : decode cX2_lay 7 = .ok (.invokestatic 80, 3) := by decide +kernel
theorem dX2_lay_10 : decode cX2_lay 10 = .ok (.istore 4, 2) := by decide +kernel
theorem dX2_lay_12 : decode cX2_lay 12 = .ok (.aload_n 1, 1) := by decide +kernel
theorem dX2_lay_13 : decode cX2_lay 13 = .ok (.iload_n 2, 1) := by decide +kernel
theorem dX2_lay_14 : decode cX2_lay 14 = .ok (.dup2, 1) := by decide +kernel
theorem dX2_lay_15 : decode cX2_lay 15 = .ok (.iaload, 1) := by decide +kernel
theorem dX2_lay_16 : decode cX2_lay 16 = .ok (.iload 4, 2) := by decide +kernel
theorem dX2_lay_18 : decode cX2_lay 18 = .ok (.iadd, 1) := by decide +kernel
theorem dX2_lay_19 : decode cX2_lay 19 = .ok (.iastore, 1) := by decide +kernel
theorem dX2_lay_20 : decode cX2_lay 20 = .ok (.aload_n 0, 1) := by decide +kernel
theorem dX2_lay_21 : decode cX2_lay 21 = .ok (.dup, 1) := by decide +kernel
theorem dX2_lay_22 : decode cX2_lay 22 = .ok (.getfield 19, 3) := by decide +kernel
theorem dX2_lay_25 : decode cX2_lay 25 = .ok (.iload 4, 2) := by decide +kernel
theorem dX2_lay_27 : decode cX2_lay 27 = .ok (.iadd, 1) := by decide +kernel
theorem dX2_lay_28 : decode cX2_lay 28 = .ok (.putfield 19, 3) := by decide +kernel
theorem dX2_lay_31 : decode cX2_lay 31 = .ok (.return_, 1) := by decide +kernel
theorem dX2_take_0 : decode cX2_take 0 = .ok (.iload_n 3, 1) := by decide +kernel
theorem dX2_take_1 : decode cX2_take 1 = .ok (.aload_n 1, 1) := by decide +kernel
theorem dX2_take_2 : decode cX2_take 2 = .ok (.iload_n 2, 1) := by decide +kernel
theorem dX2_take_3 : decode cX2_take 3 = .ok (.iaload, 1) := by decide +kernel
theorem dX2_take_4 : decode cX2_take 4 = .ok (.invokestatic 80, 3) := by decide +kernel
theorem dX2_take_7 : decode cX2_take 7 = .ok (.istore 4, 2) := by decide +kernel
theorem dX2_take_9 : decode cX2_take 9 = .ok (.aload_n 1, 1) := by decide +kernel
theorem dX2_take_10 : decode cX2_take 10 = .ok (.iload_n 2, 1) := by decide +kernel
theorem dX2_take_11 : decode cX2_take 11 = .ok (.dup2, 1) := by decide +kernel
theorem dX2_take_12 : decode cX2_take 12 = .ok (.iaload, 1) := by decide +kernel
theorem dX2_take_13 : decode cX2_take 13 = .ok (.iload 4, 2) := by decide +kernel
theorem dX2_take_15 : decode cX2_take 15 = .ok (.isub, 1) := by decide +kernel
theorem dX2_take_16 : decode cX2_take 16 = .ok (.iastore, 1) := by decide +kernel
theorem dX2_take_17 : decode cX2_take 17 = .ok (.aload_n 0, 1) := by decide +kernel
theorem dX2_take_18 : decode cX2_take 18 = .ok (.dup, 1) := by decide +kernel
theorem dX2_take_19 : decode cX2_take 19 = .ok (.getfield 22, 3) := by decide +kernel
theorem dX2_take_22 : decode cX2_take 22 = .ok (.iload 4, 2) := by decide +kernel
theorem dX2_take_24 : decode cX2_take 24 = .ok (.iadd, 1) := by decide +kernel
theorem dX2_take_25 : decode cX2_take 25 = .ok (.putfield 22, 3) := by decide +kernel
theorem dX2_take_28 : decode cX2_take 28 = .ok (.return_, 1) := by decide +kernel
theorem dX2_rage_0 : decode cX2_rage 0 = .ok (.iload_n 2, 1) := by decide +kernel
theorem dX2_rage_1 : decode cX2_rage 1 = .ok (.ifCond .gt 4, 3) := by decide +kernel
theorem dX2_rage_4 : decode cX2_rage 4 = .ok (.return_, 1) := by decide +kernel
theorem dX2_rage_5 : decode cX2_rage 5 = .ok (.iconst 0, 1) := by decide +kernel
theorem dX2_rage_6 : decode cX2_rage 6 = .ok (.istore 4, 2) := by decide +kernel
theorem dX2_rage_8 : decode cX2_rage 8 = .ok (.iload 4, 2) := by decide +kernel
theorem dX2_rage_10 : decode cX2_rage 10 = .ok (.iload_n 3, 1) := by decide +kernel
theorem dX2_rage_11 : decode cX2_rage 11 = .ok (.if_icmp .ge 43, 3) := by decide +kernel
theorem dX2_rage_14 : decode cX2_rage 14 = .ok (.aload_n 0, 1) := by decide +kernel
theorem dX2_rage_15 : decode cX2_rage 15 = .ok (.aload_n 0, 1) := by decide +kernel
theorem dX2_rage_16 : decode cX2_rage 16 = .ok (.getfield 28, 3) := by decide +kernel
theorem dX2_rage_19 : decode cX2_rage 19 = .ok (.sipush 2861, 3) := by decide +kernel
theorem dX2_rage_22 : decode cX2_rage 22 = .ok (.imul, 1) := by decide +kernel
theorem dX2_rage_23 : decode cX2_rage 23 = .ok (.sipush 12007, 3) := by decide +kernel
theorem dX2_rage_26 : decode cX2_rage 26 = .ok (.iadd, 1) := by decide +kernel
theorem dX2_rage_27 : decode cX2_rage 27 = .ok (.ldc 86, 2) := by decide +kernel
theorem dX2_rage_29 : decode cX2_rage 29 = .ok (.irem, 1) := by decide +kernel
theorem dX2_rage_30 : decode cX2_rage 30 = .ok (.putfield 28, 3) := by decide +kernel
theorem dX2_rage_33 : decode cX2_rage 33 = .ok (.aload_n 0, 1) := by decide +kernel
theorem dX2_rage_34 : decode cX2_rage 34 = .ok (.aload_n 1, 1) := by decide +kernel
theorem dX2_rage_35 : decode cX2_rage 35 = .ok (.aload_n 0, 1) := by decide +kernel
theorem dX2_rage_36 : decode cX2_rage 36 = .ok (.getfield 28, 3) := by decide +kernel
theorem dX2_rage_39 : decode cX2_rage 39 = .ok (.bipush 8, 2) := by decide +kernel
theorem dX2_rage_41 : decode cX2_rage 41 = .ok (.idiv, 1) := by decide +kernel
theorem dX2_rage_42 : decode cX2_rage 42 = .ok (.iload_n 2, 1) := by decide +kernel
theorem dX2_rage_43 : decode cX2_rage 43 = .ok (.irem, 1) := by decide +kernel
theorem dX2_rage_44 : decode cX2_rage 44 = .ok (.iconst 1, 1) := by decide +kernel
theorem dX2_rage_45 : decode cX2_rage 45 = .ok (.invokevirtual 67, 3) := by decide +kernel
theorem dX2_rage_48 : decode cX2_rage 48 = .ok (.iinc 4 1, 3) := by decide +kernel
theorem dX2_rage_51 : decode cX2_rage 51 = .ok (.goto (-43), 3) := by decide +kernel
theorem dX2_rage_54 : decode cX2_rage 54 = .ok (.return_, 1) := by decide +kernel
theorem dX2_isSo_0 : decode cX2_isSo 0 = .ok (.aload_n 1, 1) := by decide +kernel
theorem dX2_isSo_1 : decode cX2_isSo 1 = .ok (.getfield 51, 3) := by decide +kernel
theorem dX2_isSo_4 : decode cX2_isSo 4 = .ok (.iload 4, 2) := by decide +kernel
theorem dX2_isSo_6 : decode cX2_isSo 6 = .ok (.iaload, 1) := by decide +kernel
theorem dX2_isSo_7 : decode cX2_isSo 7 = .ok (.istore 5, 2) := by decide +kernel
theorem dX2_isSo_9 : decode cX2_isSo 9 = .ok (.aload_n 1, 1) := by decide +kernel
theorem dX2_isSo_10 : decode cX2_isSo 10 = .ok (.getfield 87, 3) := by decide +kernel
theorem dX2_isSo_13 : decode cX2_isSo 13 = .ok (.iload 4, 2) := by decide +kernel
theorem dX2_isSo_15 : decode cX2_isSo 15 = .ok (.iaload, 1) := by decide +kernel
theorem dX2_isSo_16 : decode cX2_isSo 16 = .ok (.istore 6, 2) := by decide +kernel
theorem dX2_isSo_18 : decode cX2_isSo 18 = .ok (.aload_n 1, 1) := by decide +kernel
theorem dX2_isSo_19 : decode cX2_isSo 19 = .ok (.getfield 60, 3) := by decide +kernel
theorem dX2_isSo_22 : decode cX2_isSo 22 = .ok (.iload 4, 2) := by decide +kernel
theorem dX2_isSo_24 : decode cX2_isSo 24 = .ok (.iaload, 1) := by decide +kernel
theorem dX2_isSo_25 : decode cX2_isSo 25 = .ok (.istore 7, 2) := by decide +kernel
theorem dX2_isSo_27 : decode cX2_isSo 27 = .ok (.aload_n 1, 1) := by decide +kernel
theorem dX2_isSo_28 : decode cX2_isSo 28 = .ok (.getfield 90, 3) := by decide +kernel
theorem dX2_isSo_31 : decode cX2_isSo 31 = .ok (.iload 4, 2) := by decide +kernel
theorem dX2_isSo_33 : decode cX2_isSo 33 = .ok (.iaload, 1) := by decide +kernel
theorem dX2_isSo_34 : decode cX2_isSo 34 = .ok (.lookupswitch 144 #[(5, 63), (11, 34), (13, 109)], 34) := by decide +kernel
theorem dX2_isSo_68 : decode cX2_isSo 68 = .ok (.aload_n 2, 1) := by decide +kernel
theorem dX2_isSo_69 : decode cX2_isSo 69 = .ok (.iload 5, 2) := by decide +kernel
theorem dX2_isSo_71 : decode cX2_isSo 71 = .ok (.invokevirtual 54, 3) := by decide +kernel
theorem dX2_isSo_74 : decode cX2_isSo 74 = .ok (.ifCond .eq 21, 3) := by decide +kernel
theorem dX2_isSo_77 : decode cX2_isSo 77 = .ok (.aload_n 3, 1) := by decide +kernel
theorem dX2_isSo_78 : decode cX2_isSo 78 = .ok (.iload 5, 2) := by decide +kernel
theorem dX2_isSo_80 : decode cX2_isSo 80 = .ok (.iaload, 1) := by decide +kernel
theorem dX2_isSo_81 : decode cX2_isSo 81 = .ok (.iload 6, 2) := by decide +kernel
theorem dX2_isSo_83 : decode cX2_isSo 83 = .ok (.iload 7, 2) := by decide +kernel
theorem dX2_isSo_85 : decode cX2_isSo 85 = .ok (.invokestatic 93, 3) := by decide +kernel
theorem dX2_isSo_88 : decode cX2_isSo 88 = .ok (.ifCond .eq 7, 3) := by decide +kernel
theorem dX2_isSo_91 : decode cX2_isSo 91 = .ok (.iconst 1, 1) := by decide +kernel
theorem dX2_isSo_92 : decode cX2_isSo 92 = .ok (.goto 4, 3) := by decide +kernel
theorem dX2_isSo_95 : decode cX2_isSo 95 = .ok (.iconst 0, 1) := by decide +kernel
theorem dX2_isSo_96 : decode cX2_isSo 96 = .ok (.ireturn, 1) := by decide +kernel
theorem dX2_isSo_97 : decode cX2_isSo 97 = .ok (.aload_n 2, 1) := by decide +kernel
theorem dX2_isSo_98 : decode cX2_isSo 98 = .ok (.iload 5, 2) := by decide +kernel
theorem dX2_isSo_100 : decode cX2_isSo 100 = .ok (.aload_n 1, 1) := by decide +kernel
theorem dX2_isSo_101 : decode cX2_isSo 101 = .ok (.getfield 97, 3) := by decide +kernel
theorem dX2_isSo_104 : decode cX2_isSo 104 = .ok (.iload 4, 2) := by decide +kernel
theorem dX2_isSo_106 : decode cX2_isSo 106 = .ok (.iaload, 1) := by decide +kernel
theorem dX2_isSo_107 : decode cX2_isSo 107 = .ok (.invokevirtual 100, 3) := by decide +kernel
theorem dX2_isSo_110 : decode cX2_isSo 110 = .ok (.ifCond .eq 31, 3) := by decide +kernel
theorem dX2_isSo_113 : decode cX2_isSo 113 = .ok (.aload_n 2, 1) := by decide +kernel
theorem dX2_isSo_114 : decode cX2_isSo 114 = .ok (.iload 5, 2) := by decide +kernel
theorem dX2_isSo_116 : decode cX2_isSo 116 = .ok (.aload_n 1, 1) := by decide +kernel
theorem dX2_isSo_117 : decode cX2_isSo 117 = .ok (.getfield 97, 3) := by decide +kernel
theorem dX2_isSo_120 : decode cX2_isSo 120 = .ok (.iload 4, 2) := by decide +kernel
theorem dX2_isSo_122 : decode cX2_isSo 122 = .ok (.iaload, 1) := by decide +kernel
theorem dX2_isSo_123 : decode cX2_isSo 123 = .ok (.aload_n 3, 1) := by decide +kernel
theorem dX2_isSo_124 : decode cX2_isSo 124 = .ok (.invokevirtual 104, 3) := by decide +kernel
theorem dX2_isSo_127 : decode cX2_isSo 127 = .ok (.iload 6, 2) := by decide +kernel
theorem dX2_isSo_129 : decode cX2_isSo 129 = .ok (.iload 7, 2) := by decide +kernel
theorem dX2_isSo_131 : decode cX2_isSo 131 = .ok (.invokestatic 93, 3) := by decide +kernel
theorem dX2_isSo_134 : decode cX2_isSo 134 = .ok (.ifCond .eq 7, 3) := by decide +kernel
theorem dX2_isSo_137 : decode cX2_isSo 137 = .ok (.iconst 1, 1) := by decide +kernel
theorem dX2_isSo_138 : decode cX2_isSo 138 = .ok (.goto 4, 3) := by decide +kernel
theorem dX2_isSo_141 : decode cX2_isSo 141 = .ok (.iconst 0, 1) := by decide +kernel
theorem dX2_isSo_142 : decode cX2_isSo 142 = .ok (.ireturn, 1) := by decide +kernel
theorem dX2_isSo_143 : decode cX2_isSo 143 = .ok (.aload_n 2, 1) := by decide +kernel
theorem dX2_isSo_144 : decode cX2_isSo 144 = .ok (.iload 5, 2) := by decide +kernel
theorem dX2_isSo_146 : decode cX2_isSo 146 = .ok (.invokevirtual 108, 3) := by decide +kernel
theorem dX2_isSo_149 : decode cX2_isSo 149 = .ok (.ifCond .eq 27, 3) := by decide +kernel
theorem dX2_isSo_152 : decode cX2_isSo 152 = .ok (.aload_n 2, 1) := by decide +kernel
theorem dX2_isSo_153 : decode cX2_isSo 153 = .ok (.iload 5, 2) := by decide +kernel
theorem dX2_isSo_155 : decode cX2_isSo 155 = .ok (.invokevirtual 111, 3) := by decide +kernel
theorem dX2_isSo_158 : decode cX2_isSo 158 = .ok (.ifCond .eq 18, 3) := by decide +kernel
theorem dX2_isSo_161 : decode cX2_isSo 161 = .ok (.aload_n 2, 1) := by decide +kernel
theorem dX2_isSo_162 : decode cX2_isSo 162 = .ok (.iload 5, 2) := by decide +kernel
theorem dX2_isSo_164 : decode cX2_isSo 164 = .ok (.aload_n 3, 1) := by decide +kernel
theorem dX2_isSo_165 : decode cX2_isSo 165 = .ok (.invokevirtual 114, 3) := by decide +kernel
theorem dX2_isSo_168 : decode cX2_isSo 168 = .ok (.iconst (-1), 1) := by decide +kernel
theorem dX2_isSo_169 : decode cX2_isSo 169 = .ok (.if_icmp .ne 7, 3) := by decide +kernel
theorem dX2_isSo_172 : decode cX2_isSo 172 = .ok (.iconst 1, 1) := by decide +kernel
theorem dX2_isSo_173 : decode cX2_isSo 173 = .ok (.goto 4, 3) := by decide +kernel
theorem dX2_isSo_176 : decode cX2_isSo 176 = .ok (.iconst 0, 1) := by decide +kernel
theorem dX2_isSo_177 : decode cX2_isSo 177 = .ok (.ireturn, 1) := by decide +kernel
theorem dX2_isSo_178 : decode cX2_isSo 178 = .ok (.aload_n 2, 1) := by decide +kernel
theorem dX2_isSo_179 : decode cX2_isSo 179 = .ok (.aload_n 3, 1) := by decide +kernel
theorem dX2_isSo_180 : decode cX2_isSo 180 = .ok (.invokevirtual 118, 3) := by decide +kernel
theorem dX2_isSo_183 : decode cX2_isSo 183 = .ok (.iload 6, 2) := by decide +kernel
theorem dX2_isSo_185 : decode cX2_isSo 185 = .ok (.iload 7, 2) := by decide +kernel
theorem dX2_isSo_187 : decode cX2_isSo 187 = .ok (.invokestatic 93, 3) := by decide +kernel
theorem dX2_isSo_190 : decode cX2_isSo 190 = .ok (.ireturn, 1) := by decide +kernel
theorem dX2_compares_0 : decode cX2_compares 0 = .ok (.iload_n 1, 1) := by decide +kernel
theorem dX2_compares_1 : decode cX2_compares 1 = .ok (.lookupswitch 49 #[(60, 27), (62, 38)], 27) := by decide +kernel
theorem dX2_compares_28 : decode cX2_compares 28 = .ok (.iload_n 0, 1) := by decide +kernel
theorem dX2_compares_29 : decode cX2_compares 29 = .ok (.iload_n 2, 1) := by decide +kernel
theorem dX2_compares_30 : decode cX2_compares 30 = .ok (.if_icmp .ge 7, 3) := by decide +kernel
theorem dX2_compares_33 : decode cX2_compares 33 = .ok (.iconst 1, 1) := by decide +kernel
theorem dX2_compares_34 : decode cX2_compares 34 = .ok (.goto 4, 3) := by decide +kernel
theorem dX2_compares_37 : decode cX2_compares 37 = .ok (.iconst 0, 1) := by decide +kernel
theorem dX2_compares_38 : decode cX2_compares 38 = .ok (.ireturn, 1) := by decide +kernel
theorem dX2_compares_39 : decode cX2_compares 39 = .ok (.iload_n 0, 1) := by decide +kernel
theorem dX2_compares_40 : decode cX2_compares 40 = .ok (.iload_n 2, 1) := by decide +kernel
theorem dX2_compares_41 : decode cX2_compares 41 = .ok (.if_icmp .le 7, 3) := by decide +kernel
theorem dX2_compares_44 : decode cX2_compares 44 = .ok (.iconst 1, 1) := by decide +kernel
theorem dX2_compares_45 : decode cX2_compares 45 = .ok (.goto 4, 3) := by decide +kernel
theorem dX2_compares_48 : decode cX2_compares 48 = .ok (.iconst 0, 1) := by decide +kernel
theorem dX2_compares_49 : decode cX2_compares 49 = .ok (.ireturn, 1) := by decide +kernel
theorem dX2_compares_50 : decode cX2_compares 50 = .ok (.iload_n 0, 1) := by decide +kernel
theorem dX2_compares_51 : decode cX2_compares 51 = .ok (.iload_n 2, 1) := by decide +kernel
theorem dX2_compares_52 : decode cX2_compares 52 = .ok (.if_icmp .ne 7, 3) := by decide +kernel
theorem dX2_compares_55 : decode cX2_compares 55 = .ok (.iconst 1, 1) := by decide +kernel
theorem dX2_compares_56 : decode cX2_compares 56 = .ok (.goto 4, 3) := by decide +kernel
theorem dX2_compares_59 : decode cX2_compares 59 = .ok (.iconst 0, 1) := by decide +kernel
theorem dX2_compares_60 : decode cX2_compares 60 = .ok (.ireturn, 1) := by decide +kernel
theorem dX3_init_0 : decode cX3_init 0 = .ok (.aload_n 0, 1) := by decide +kernel
theorem dX3_init_1 : decode cX3_init 1 = .ok (.invokespecial 3, 3) := by decide +kernel
theorem dX3_init_4 : decode cX3_init 4 = .ok (.aload_n 0, 1) := by decide +kernel
theorem dX3_init_5 : decode cX3_init 5 = .ok (.bipush 60, 2) := by decide +kernel
theorem dX3_init_7 : decode cX3_init 7 = .ok (.newarray .int, 2) := by decide +kernel
theorem dX3_init_9 : decode cX3_init 9 = .ok (.putfield 9, 3) := by decide +kernel
theorem dX3_init_12 : decode cX3_init 12 = .ok (.aload_n 0, 1) := by decide +kernel
theorem dX3_init_13 : decode cX3_init 13 = .ok (.bipush 60, 2) := by decide +kernel
theorem dX3_init_15 : decode cX3_init 15 = .ok (.newarray .int, 2) := by decide +kernel
theorem dX3_init_17 : decode cX3_init 17 = .ok (.putfield 15, 3) := by decide +kernel
theorem dX3_init_20 : decode cX3_init 20 = .ok (.aload_n 0, 1) := by decide +kernel
theorem dX3_init_21 : decode cX3_init 21 = .ok (.bipush 60, 2) := by decide +kernel
theorem dX3_init_23 : decode cX3_init 23 = .ok (.newarray .int, 2) := by decide +kernel
theorem dX3_init_25 : decode cX3_init 25 = .ok (.putfield 18, 3) := by decide +kernel
theorem dX3_init_28 : decode cX3_init 28 = .ok (.aload_n 0, 1) := by decide +kernel
theorem dX3_init_29 : decode cX3_init 29 = .ok (.bipush 60, 2) := by decide +kernel
theorem dX3_init_31 : decode cX3_init 31 = .ok (.newarray .int, 2) := by decide +kernel
theorem dX3_init_33 : decode cX3_init 33 = .ok (.putfield 21, 3) := by decide +kernel
theorem dX3_init_36 : decode cX3_init 36 = .ok (.aload_n 0, 1) := by decide +kernel
theorem dX3_init_37 : decode cX3_init 37 = .ok (.bipush 60, 2) := by decide +kernel
theorem dX3_init_39 : decode cX3_init 39 = .ok (.newarray .int, 2) := by decide +kernel
theorem dX3_init_41 : decode cX3_init 41 = .ok (.putfield 24, 3) := by decide +kernel
theorem dX3_init_44 : decode cX3_init 44 = .ok (.aload_n 0, 1) := by decide +kernel
theorem dX3_init_45 : decode cX3_init 45 = .ok (.bipush 60, 2) := by decide +kernel
theorem dX3_init_47 : decode cX3_init 47 = .ok (.newarray .int, 2) := by decide +kernel
theorem dX3_init_49 : decode cX3_init 49 = .ok (.putfield 27, 3) := by decide +kernel
theorem dX3_init_52 : decode cX3_init 52 = .ok (.aload_n 0, 1) := by decide +kernel
theorem dX3_init_53 : decode cX3_init 53 = .ok (.bipush 60, 2) := by decide +kernel
theorem dX3_init_55 : decode cX3_init 55 = .ok (.newarray .int, 2) := by decide +kernel
theorem dX3_init_57 : decode cX3_init 57 = .ok (.putfield 30, 3) := by decide +kernel
theorem dX3_init_60 : decode cX3_init 60 = .ok (.return_, 1) := by decide +kernel
theorem dX3_begin_0 : decode cX3_begin 0 = .ok (.aload_n 0, 1) := by decide +kernel
theorem dX3_begin_1 : decode cX3_begin 1 = .ok (.iload_n 1, 1) := by decide +kernel
theorem dX3_begin_2 : decode cX3_begin 2 = .ok (.putfield 33, 3) := by decide +kernel
theorem dX3_begin_5 : decode cX3_begin 5 = .ok (.aload_n 0, 1) := by decide +kernel
theorem dX3_begin_6 : decode cX3_begin 6 = .ok (.iconst 0, 1) := by decide +kernel
theorem dX3_begin_7 : decode cX3_begin 7 = .ok (.putfield 37, 3) := by decide +kernel
theorem dX3_begin_10 : decode cX3_begin 10 = .ok (.aload_n 0, 1) := by decide +kernel
theorem dX3_begin_11 : decode cX3_begin 11 = .ok (.iconst 0, 1) := by decide +kernel
theorem dX3_begin_12 : decode cX3_begin 12 = .ok (.putfield 41, 3) := by decide +kernel
theorem dX3_begin_15 : decode cX3_begin 15 = .ok (.return_, 1) := by decide +kernel
theorem dX3_copyFrom_0 : decode cX3_copyFrom 0 = .ok (.aload_n 0, 1) := by decide +kernel
theorem dX3_copyFrom_1 : decode cX3_copyFrom 1 = .ok (.aload_n 1, 1) := by decide +kernel
theorem dX3_copyFrom_2 : decode cX3_copyFrom 2 = .ok (.getfield 33, 3) := by decide +kernel
theorem dX3_copyFrom_5 : decode cX3_copyFrom 5 = .ok (.putfield 33, 3) := by decide +kernel
theorem dX3_copyFrom_8 : decode cX3_copyFrom 8 = .ok (.aload_n 0, 1) := by decide +kernel
theorem dX3_copyFrom_9 : decode cX3_copyFrom 9 = .ok (.aload_n 1, 1) := by decide +kernel
theorem dX3_copyFrom_10 : decode cX3_copyFrom 10 = .ok (.getfield 37, 3) := by decide +kernel
theorem dX3_copyFrom_13 : decode cX3_copyFrom 13 = .ok (.putfield 37, 3) := by decide +kernel
theorem dX3_copyFrom_16 : decode cX3_copyFrom 16 = .ok (.aload_n 0, 1) := by decide +kernel
theorem dX3_copyFrom_17 : decode cX3_copyFrom 17 = .ok (.aload_n 1, 1) := by decide +kernel
theorem dX3_copyFrom_18 : decode cX3_copyFrom 18 = .ok (.getfield 41, 3) := by decide +kernel
theorem dX3_copyFrom_21 : decode cX3_copyFrom 21 = .ok (.putfield 41, 3) := by decide +kernel
theorem dX3_copyFrom_24 : decode cX3_copyFrom 24 = .ok (.aload_n 1, 1) := by decide +kernel
theorem dX3_copyFrom_25 : decode cX3_copyFrom 25 = .ok (.getfield 9, 3) := by decide +kernel
theorem dX3_copyFrom_28 : decode cX3_copyFrom 28 = .ok (.iconst 0, 1) := by decide +kernel
theorem dX3_copyFrom_29 : decode cX3_copyFrom 29 = .ok (.aload_n 0, 1) := by decide +kernel
theorem dX3_copyFrom_30 : decode cX3_copyFrom 30 = .ok (.getfield 9, 3) := by decide +kernel
theorem dX3_copyFrom_33 : decode cX3_copyFrom 33 = .ok (.iconst 0, 1) := by decide +kernel
theorem dX3_copyFrom_34 : decode cX3_copyFrom 34 = .ok (.aload_n 0, 1) := by decide +kernel
theorem dX3_copyFrom_35 : decode cX3_copyFrom 35 = .ok (.getfield 41, 3) := by decide +kernel
theorem dX3_copyFrom_38 : decode cX3_copyFrom 38 = .ok (.invokestatic 44, 3) := by decide +kernel
theorem dX3_copyFrom_41 : decode cX3_copyFrom 41 = .ok (.aload_n 1, 1) := by decide +kernel
theorem dX3_copyFrom_42 : decode cX3_copyFrom 42 = .ok (.getfield 15, 3) := by decide +kernel
theorem dX3_copyFrom_45 : decode cX3_copyFrom 45 = .ok (.iconst 0, 1) := by decide +kernel
theorem dX3_copyFrom_46 : decode cX3_copyFrom 46 = .ok (.aload_n 0, 1) := by decide +kernel
theorem dX3_copyFrom_47 : decode cX3_copyFrom 47 = .ok (.getfield 15, 3) := by decide +kernel
theorem dX3_copyFrom_50 : decode cX3_copyFrom 50 = .ok (.iconst 0, 1) := by decide +kernel
theorem dX3_copyFrom_51 : decode cX3_copyFrom 51 = .ok (.aload_n 0, 1) := by decide +kernel
theorem dX3_copyFrom_52 : decode cX3_copyFrom 52 = .ok (.getfield 41, 3) := by decide +kernel
theorem dX3_copyFrom_55 : decode cX3_copyFrom 55 = .ok (.invokestatic 44, 3) := by decide +kernel
theorem dX3_copyFrom_58 : decode cX3_copyFrom 58 = .ok (.aload_n 1, 1) := by decide +kernel
theorem dX3_copyFrom_59 : decode cX3_copyFrom 59 = .ok (.getfield 18, 3) := by decide +kernel
theorem dX3_copyFrom_62 : decode cX3_copyFrom 62 = .ok (.iconst 0, 1) := by decide +kernel
theorem dX3_copyFrom_63 : decode cX3_copyFrom 63 = .ok (.aload_n 0, 1) := by decide +kernel
theorem dX3_copyFrom_64 : decode cX3_copyFrom 64 = .ok (.getfield 18, 3) := by decide +kernel
theorem dX3_copyFrom_67 : decode cX3_copyFrom 67 = .ok (.iconst 0, 1) := by decide +kernel
theorem dX3_copyFrom_68 : decode cX3_copyFrom 68 = .ok (.aload_n 0, 1) := by decide +kernel
theorem dX3_copyFrom_69 : decode cX3_copyFrom 69 = .ok (.getfield 41, 3) := by decide +kernel
theorem dX3_copyFrom_72 : decode cX3_copyFrom 72 = .ok (.invokestatic 44, 3) := by decide +kernel
theorem dX3_copyFrom_75 : decode cX3_copyFrom 75 = .ok (.aload_n 1, 1) := by decide +kernel
theorem dX3_copyFrom_76 : decode cX3_copyFrom 76 = .ok (.getfield 21, 3) := by decide +kernel
theorem dX3_copyFrom_79 : decode cX3_copyFrom 79 = .ok (.iconst 0, 1) := by decide +kernel
theorem dX3_copyFrom_80 : decode cX3_copyFrom 80 = .ok (.aload_n 0, 1) := by decide +kernel
theorem dX3_copyFrom_81 : decode cX3_copyFrom 81 = .ok (.getfield 21, 3) := by decide +kernel
theorem dX3_copyFrom_84 : decode cX3_copyFrom 84 = .ok (.iconst 0, 1) := by decide +kernel
theorem dX3_copyFrom_85 : decode cX3_copyFrom 85 = .ok (.aload_n 0, 1) := by decide +kernel
theorem dX3_copyFrom_86 : decode cX3_copyFrom 86 = .ok (.getfield 41, 3) := by decide +kernel
theorem dX3_copyFrom_89 : decode cX3_copyFrom 89 = .ok (.invokestatic 44, 3) := by decide +kernel
theorem dX3_copyFrom_92 : decode cX3_copyFrom 92 = .ok (.aload_n 1, 1) := by decide +kernel
theorem dX3_copyFrom_93 : decode cX3_copyFrom 93 = .ok (.getfield 24, 3) := by decide +kernel
theorem dX3_copyFrom_96 : decode cX3_copyFrom 96 = .ok (.iconst 0, 1) := by decide +kernel
theorem dX3_copyFrom_97 : decode cX3_copyFrom 97 = .ok (.aload_n 0, 1) := by decide +kernel
theorem dX3_copyFrom_98 : decode cX3_copyFrom 98 = .ok (.getfield 24, 3) := by decide +kernel
theorem dX3_copyFrom_101 : decode cX3_copyFrom 101 = .ok (.iconst 0, 1) := by decide +kernel
theorem dX3_copyFrom_102 : decode cX3_copyFrom 102 = .ok (.aload_n 0, 1) := by decide +kernel
theorem dX3_copyFrom_103 : decode cX3_copyFrom 103 = .ok (.getfield 41, 3) := by decide +kernel
theorem dX3_copyFrom_106 : decode cX3_copyFrom 106 = .ok (.invokestatic 44, 3) := by decide +kernel
theorem dX3_copyFrom_109 : decode cX3_copyFrom 109 = .ok (.aload_n 1, 1) := by decide +kernel
theorem dX3_copyFrom_110 : decode cX3_copyFrom 110 = .ok (.getfield 27, 3) := by decide +kernel
theorem dX3_copyFrom_113 : decode cX3_copyFrom 113 = .ok (.iconst 0, 1) := by decide +kernel
theorem dX3_copyFrom_114 : decode cX3_copyFrom 114 = .ok (.aload_n 0, 1) := by decide +kernel
theorem dX3_copyFrom_115 : decode cX3_copyFrom 115 = .ok (.getfield 27, 3) := by decide +kernel
theorem dX3_copyFrom_118 : decode cX3_copyFrom 118 = .ok (.iconst 0, 1) := by decide +kernel
theorem dX3_copyFrom_119 : decode cX3_copyFrom 119 = .ok (.aload_n 0, 1) := by decide +kernel
theorem dX3_copyFrom_120 : decode cX3_copyFrom 120 = .ok (.getfield 41, 3) := by decide +kernel
theorem dX3_copyFrom_123 : decode cX3_copyFrom 123 = .ok (.invokestatic 44, 3) := by decide +kernel
theorem dX3_copyFrom_126 : decode cX3_copyFrom 126 = .ok (.aload_n 1, 1) := by decide +kernel
theorem dX3_copyFrom_127 : decode cX3_copyFrom 127 = .ok (.getfield 30, 3) := by decide +kernel
theorem dX3_copyFrom_130 : decode cX3_copyFrom 130 = .ok (.iconst 0, 1) := by decide +kernel
theorem dX3_copyFrom_131 : decode cX3_copyFrom 131 = .ok (.aload_n 0, 1) := by decide +kernel
theorem dX3_copyFrom_132 : decode cX3_copyFrom 132 = .ok (.getfield 30, 3) := by decide +kernel
theorem dX3_copyFrom_135 : decode cX3_copyFrom 135 = .ok (.iconst 0, 1) := by decide +kernel
theorem dX3_copyFrom_136 : decode cX3_copyFrom 136 = .ok (.aload_n 0, 1) := by decide +kernel
theorem dX3_copyFrom_137 : decode cX3_copyFrom 137 = .ok (.getfield 41, 3) := by decide +kernel
theorem dX3_copyFrom_140 : decode cX3_copyFrom 140 = .ok (.invokestatic 44, 3) := by decide +kernel
theorem dX3_copyFrom_143 : decode cX3_copyFrom 143 = .ok (.return_, 1) := by decide +kernel
theorem dX4_init_0 : decode cX4_init 0 = .ok (.aload_n 0, 1) := by decide +kernel
theorem dX4_init_1 : decode cX4_init 1 = .ok (.invokespecial 3, 3) := by decide +kernel
theorem dX4_init_4 : decode cX4_init 4 = .ok (.aload_n 0, 1) := by decide +kernel
theorem dX4_init_5 : decode cX4_init 5 = .ok (.new 9, 3) := by decide +kernel
theorem dX4_init_8 : decode cX4_init 8 = .ok (.dup, 1) := by decide +kernel
theorem dX4_init_9 : decode cX4_init 9 = .ok (.invokespecial 11, 3) := by decide +kernel
theorem dX4_init_12 : decode cX4_init 12 = .ok (.putfield 12, 3) := by decide +kernel
theorem dX4_init_15 : decode cX4_init 15 = .ok (.aload_n 0, 1) := by decide +kernel
theorem dX4_init_16 : decode cX4_init 16 = .ok (.new 18, 3) := by decide +kernel
theorem dX4_init_19 : decode cX4_init 19 = .ok (.dup, 1) := by decide +kernel
theorem dX4_init_20 : decode cX4_init 20 = .ok (.invokespecial 20, 3) := by decide +kernel
theorem dX4_init_23 : decode cX4_init 23 = .ok (.putfield 21, 3) := by decide +kernel
theorem dX4_init_26 : decode cX4_init 26 = .ok (.aload_n 0, 1) := by decide +kernel
theorem dX4_init_27 : decode cX4_init 27 = .ok (.iconst 3, 1) := by decide +kernel
theorem dX4_init_28 : decode cX4_init 28 = .ok (.newarray .int, 2) := by decide +kernel
theorem dX4_init_30 : decode cX4_init 30 = .ok (.putfield 25, 3) := by decide +kernel
theorem dX4_init_33 : decode cX4_init 33 = .ok (.return_, 1) := by decide +kernel
theorem dX4_readOrders_0 : decode cX4_readOrders 0 = .ok (.aload_n 0, 1) := by decide +kernel
theorem dX4_readOrders_1 : decode cX4_readOrders 1 = .ok (.iconst 0, 1) := by decide +kernel
theorem dX4_readOrders_2 : decode cX4_readOrders 2 = .ok (.putfield 29, 3) := by decide +kernel
theorem dX4_readOrders_5 : decode cX4_readOrders 5 = .ok (.aload_n 0, 1) := by decide +kernel
theorem dX4_readOrders_6 : decode cX4_readOrders 6 = .ok (.getfield 12, 3) := by decide +kernel
theorem dX4_readOrders_9 : decode cX4_readOrders 9 = .ok (.iconst 1, 1) := by decide +kernel
theorem dX4_readOrders_10 : decode cX4_readOrders 10 = .ok (.invokevirtual 33, 3) := by decide +kernel
theorem dX4_readOrders_13 : decode cX4_readOrders 13 = .ok (.aload_n 0, 1) := by decide +kernel
theorem dX4_readOrders_14 : decode cX4_readOrders 14 = .ok (.getfield 21, 3) := by decide +kernel
theorem dX4_readOrders_17 : decode cX4_readOrders 17 = .ok (.aload_n 1, 1) := by decide +kernel
theorem dX4_readOrders_18 : decode cX4_readOrders 18 = .ok (.iload_n 2, 1) := by decide +kernel
theorem dX4_readOrders_19 : decode cX4_readOrders 19 = .ok (.invokevirtual 37, 3) := by decide +kernel
theorem dX4_readOrders_22 : decode cX4_readOrders 22 = .ok (.iconst 0, 1) := by decide +kernel
theorem dX4_readOrders_23 : decode cX4_readOrders 23 = .ok (.istore 4, 2) := by decide +kernel
theorem dX4_readOrders_25 : decode cX4_readOrders 25 = .ok (.iload 4, 2) := by decide +kernel
theorem dX4_readOrders_27 : decode cX4_readOrders 27 = .ok (.iload_n 2, 1) := by decide +kernel
theorem dX4_readOrders_28 : decode cX4_readOrders 28 = .ok (.if_icmp .ge 77, 3) := by decide +kernel
theorem dX4_readOrders_31 : decode cX4_readOrders 31 = .ok (.aload_n 0, 1) := by decide +kernel
theorem dX4_readOrders_32 : decode cX4_readOrders 32 = .ok (.getfield 21, 3) := by decide +kernel
theorem dX4_readOrders_35 : decode cX4_readOrders 35 = .ok (.getfield 40, 3) := by decide +kernel
theorem dX4_readOrders_38 : decode cX4_readOrders 38 = .ok (.ifCond .eq 67, 3) := by decide +kernel
theorem dX4_readOrders_41 : decode cX4_readOrders 41 = .ok (.aload_n 0, 1) := by decide +kernel
theorem dX4_readOrders_42 : decode cX4_readOrders 42 = .ok (.getfield 21, 3) := by decide +kernel
theorem dX4_readOrders_45 : decode cX4_readOrders 45 = .ok (.getfield 43, 3) := by decide +kernel
theorem dX4_readOrders_48 : decode cX4_readOrders 48 = .ok (.bipush 16, 2) := by decide +kernel
theorem dX4_readOrders_50 : decode cX4_readOrders 50 = .ok (.if_icmp .ne 10, 3) := by decide +kernel
theorem dX4_readOrders_53 : decode cX4_readOrders 53 = .ok (.aload_n 0, 1) := by decide +kernel
theorem dX4_readOrders_54 : decode cX4_readOrders 54 = .ok (.invokevirtual 46, 3) := by decide +kernel
theorem dX4_readOrders_57 : decode cX4_readOrders 57 = .ok (.goto 23, 3) := by decide +kernel
theorem dX4_readOrders_60 : decode cX4_readOrders 60 = .ok (.aload_n 0, 1) := by decide +kernel
theorem dX4_readOrders_61 : decode cX4_readOrders 61 = .ok (.invokevirtual 50, 3) := by decide +kernel
theorem dX4_readOrders_64 : decode cX4_readOrders 64 = .ok (.ifCond .eq 15, 3) := by decide +kernel
theorem dX4_readOrders_67 : decode cX4_readOrders 67 = .ok (.aload_n 0, 1) := by decide +kernel
theorem dX4_readOrders_68 : decode cX4_readOrders 68 = .ok (.aload_n 3, 1) := by decide +kernel
theorem dX4_readOrders_69 : decode cX4_readOrders 69 = .ok (.invokevirtual 53, 3) := by decide +kernel
theorem dX4_readOrders_72 : decode cX4_readOrders 72 = .ok (.ifCond .eq 7, 3) := by decide +kernel
theorem dX4_readOrders_75 : decode cX4_readOrders 75 = .ok (.iconst 1, 1) := by decide +kernel
theorem dX4_readOrders_76 : decode cX4_readOrders 76 = .ok (.goto 4, 3) := by decide +kernel
theorem dX4_readOrders_79 : decode cX4_readOrders 79 = .ok (.iconst 0, 1) := by decide +kernel
theorem dX4_readOrders_80 : decode cX4_readOrders 80 = .ok (.istore 5, 2) := by decide +kernel
theorem dX4_readOrders_82 : decode cX4_readOrders 82 = .ok (.iload 5, 2) := by decide +kernel
theorem dX4_readOrders_84 : decode cX4_readOrders 84 = .ok (.ifCond .eq 13, 3) := by decide +kernel
theorem dX4_readOrders_87 : decode cX4_readOrders 87 = .ok (.aload_n 0, 1) := by decide +kernel
theorem dX4_readOrders_88 : decode cX4_readOrders 88 = .ok (.getfield 21, 3) := by decide +kernel
theorem dX4_readOrders_91 : decode cX4_readOrders 91 = .ok (.invokevirtual 57, 3) := by decide +kernel
theorem dX4_readOrders_94 : decode cX4_readOrders 94 = .ok (.ifCond .ne 5, 3) := by decide +kernel
theorem dX4_readOrders_97 : decode cX4_readOrders 97 = .ok (.iconst 0, 1) := by decide +kernel
theorem dX4_readOrders_98 : decode cX4_readOrders 98 = .ok (.ireturn, 1) := by decide +kernel
theorem dX4_readOrders_99 : decode cX4_readOrders 99 = .ok (.iinc 4 1, 3) := by decide +kernel
theorem dX4_readOrders_102 : decode cX4_readOrders 102 = .ok (.goto (-77), 3) := by decide +kernel
theorem dX4_readOrders_105 : decode cX4_readOrders 105 = .ok (.aload_n 0, 1) := by decide +kernel
theorem dX4_readOrders_106 : decode cX4_readOrders 106 = .ok (.getfield 29, 3) := by decide +kernel
theorem dX4_readOrders_109 : decode cX4_readOrders 109 = .ok (.ifCond .eq 14, 3) := by decide +kernel
theorem dX4_readOrders_112 : decode cX4_readOrders 112 = .ok (.aload_n 0, 1) := by decide +kernel
theorem dX4_readOrders_113 : decode cX4_readOrders 113 = .ok (.getfield 21, 3) := by decide +kernel
theorem dX4_readOrders_116 : decode cX4_readOrders 116 = .ok (.iconst 2, 1) := by decide +kernel
theorem dX4_readOrders_117 : decode cX4_readOrders 117 = .ok (.invokevirtual 60, 3) := by decide +kernel
theorem dX4_readOrders_120 : decode cX4_readOrders 120 = .ok (.ifCond .eq 7, 3) := by decide +kernel
theorem dX4_readOrders_123 : decode cX4_readOrders 123 = .ok (.iconst 1, 1) := by decide +kernel
theorem dX4_readOrders_124 : decode cX4_readOrders 124 = .ok (.goto 4, 3) := by decide +kernel
theorem dX4_readOrders_127 : decode cX4_readOrders 127 = .ok (.iconst 0, 1) := by decide +kernel
theorem dX4_readOrders_128 : decode cX4_readOrders 128 = .ok (.ireturn, 1) := by decide +kernel
theorem dX4_readEnd_0 : decode cX4_readEnd 0 = .ok (.aload_n 0, 1) := by decide +kernel
theorem dX4_readEnd_1 : decode cX4_readEnd 1 = .ok (.getfield 29, 3) := by decide +kernel
theorem dX4_readEnd_4 : decode cX4_readEnd 4 = .ok (.ifCond .le 15, 3) := by decide +kernel
theorem dX4_readEnd_7 : decode cX4_readEnd 7 = .ok (.aload_n 0, 1) := by decide +kernel
theorem dX4_readEnd_8 : decode cX4_readEnd 8 = .ok (.getfield 12, 3) := by decide +kernel
theorem dX4_readEnd_11 : decode cX4_readEnd 11 = .ok (.getfield 64, 3) := by decide +kernel
theorem dX4_readEnd_14 : decode cX4_readEnd 14 = .ok (.bipush 60, 2) := by decide +kernel
theorem dX4_readEnd_16 : decode cX4_readEnd 16 = .ok (.if_icmp .lt 12, 3) := by decide +kernel
theorem dX4_readEnd_19 : decode cX4_readEnd 19 = .ok (.aload_n 0, 1) := by decide +kernel
theorem dX4_readEnd_20 : decode cX4_readEnd 20 = .ok (.getfield 21, 3) := by decide +kernel
theorem dX4_readEnd_23 : decode cX4_readEnd 23 = .ok (.iconst 2, 1) := by decide +kernel
theorem dX4_readEnd_24 : decode cX4_readEnd 24 = .ok (.invokevirtual 60, 3) := by decide +kernel
theorem dX4_readEnd_27 : decode cX4_readEnd 27 = .ok (.ireturn, 1) := by decide +kernel
theorem dX4_readEnd_28 : decode cX4_readEnd 28 = .ok (.aload_n 0, 1) := by decide +kernel
theorem dX4_readEnd_29 : decode cX4_readEnd 29 = .ok (.dup, 1) := by decide +kernel
theorem dX4_readEnd_30 : decode cX4_readEnd 30 = .ok (.getfield 29, 3) := by decide +kernel
theorem dX4_readEnd_33 : decode cX4_readEnd 33 = .ok (.iconst 1, 1) := by decide +kernel
theorem dX4_readEnd_34 : decode cX4_readEnd 34 = .ok (.isub, 1) := by decide +kernel
theorem dX4_readEnd_35 : decode cX4_readEnd 35 = .ok (.putfield 29, 3) := by decide +kernel
theorem dX4_readEnd_38 : decode cX4_readEnd 38 = .ok (.aload_n 0, 1) := by decide +kernel
theorem dX4_readEnd_39 : decode cX4_readEnd 39 = .ok (.getfield 12, 3) := by decide +kernel
theorem dX4_readEnd_42 : decode cX4_readEnd 42 = .ok (.getfield 64, 3) := by decide +kernel
theorem dX4_readEnd_45 : decode cX4_readEnd 45 = .ok (.istore_n 1, 1) := by decide +kernel
theorem dX4_readEnd_46 : decode cX4_readEnd 46 = .ok (.aload_n 0, 1) := by decide +kernel
theorem dX4_readEnd_47 : decode cX4_readEnd 47 = .ok (.getfield 12, 3) := by decide +kernel
theorem dX4_readEnd_50 : decode cX4_readEnd 50 = .ok (.getfield 67, 3) := by decide +kernel
theorem dX4_readEnd_53 : decode cX4_readEnd 53 = .ok (.iload_n 1, 1) := by decide +kernel
theorem dX4_readEnd_54 : decode cX4_readEnd 54 = .ok (.bipush 16, 2) := by decide +kernel
theorem dX4_readEnd_56 : decode cX4_readEnd 56 = .ok (.iastore, 1) := by decide +kernel
theorem dX4_readEnd_57 : decode cX4_readEnd 57 = .ok (.aload_n 0, 1) := by decide +kernel
theorem dX4_readEnd_58 : decode cX4_readEnd 58 = .ok (.getfield 12, 3) := by decide +kernel
theorem dX4_readEnd_61 : decode cX4_readEnd 61 = .ok (.getfield 70, 3) := by decide +kernel
theorem dX4_readEnd_64 : decode cX4_readEnd 64 = .ok (.iload_n 1, 1) := by decide +kernel
theorem dX4_readEnd_65 : decode cX4_readEnd 65 = .ok (.aload_n 0, 1) := by decide +kernel
theorem dX4_readEnd_66 : decode cX4_readEnd 66 = .ok (.getfield 25, 3) := by decide +kernel
theorem dX4_readEnd_69 : decode cX4_readEnd 69 = .ok (.aload_n 0, 1) := by decide +kernel
theorem dX4_readEnd_70 : decode cX4_readEnd 70 = .ok (.getfield 29, 3) := by decide +kernel
theorem dX4_readEnd_73 : decode cX4_readEnd 73 = .ok (.iaload, 1) := by decide +kernel
theorem dX4_readEnd_74 : decode cX4_readEnd 74 = .ok (.iastore, 1) := by decide +kernel
theorem dX4_readEnd_75 : decode cX4_readEnd 75 = .ok (.aload_n 0, 1) := by decide +kernel
theorem dX4_readEnd_76 : decode cX4_readEnd 76 = .ok (.getfield 12, 3) := by decide +kernel
theorem dX4_readEnd_79 : decode cX4_readEnd 79 = .ok (.getfield 70, 3) := by decide +kernel
theorem dX4_readEnd_82 : decode cX4_readEnd 82 = .ok (.aload_n 0, 1) := by decide +kernel
theorem dX4_readEnd_83 : decode cX4_readEnd 83 = .ok (.getfield 25, 3) := by decide +kernel
theorem dX4_readEnd_86 : decode cX4_readEnd 86 = .ok (.aload_n 0, 1) := by decide +kernel
theorem dX4_readEnd_87 : decode cX4_readEnd 87 = .ok (.getfield 29, 3) := by decide +kernel
theorem dX4_readEnd_90 : decode cX4_readEnd 90 = .ok (.iaload, 1) := by decide +kernel
theorem dX4_readEnd_91 : decode cX4_readEnd 91 = .ok (.iload_n 1, 1) := by decide +kernel
theorem dX4_readEnd_92 : decode cX4_readEnd 92 = .ok (.iastore, 1) := by decide +kernel
theorem dX4_readEnd_93 : decode cX4_readEnd 93 = .ok (.aload_n 0, 1) := by decide +kernel
theorem dX4_readEnd_94 : decode cX4_readEnd 94 = .ok (.getfield 12, 3) := by decide +kernel
theorem dX4_readEnd_97 : decode cX4_readEnd 97 = .ok (.dup, 1) := by decide +kernel
theorem dX4_readEnd_98 : decode cX4_readEnd 98 = .ok (.getfield 64, 3) := by decide +kernel
theorem dX4_readEnd_101 : decode cX4_readEnd 101 = .ok (.iconst 1, 1) := by decide +kernel
theorem dX4_readEnd_102 : decode cX4_readEnd 102 = .ok (.iadd, 1) := by decide +kernel
theorem dX4_readEnd_103 : decode cX4_readEnd 103 = .ok (.putfield 64, 3) := by decide +kernel
theorem dX4_readEnd_106 : decode cX4_readEnd 106 = .ok (.aload_n 0, 1) := by decide +kernel
theorem dX4_readEnd_107 : decode cX4_readEnd 107 = .ok (.getfield 21, 3) := by decide +kernel
theorem dX4_readEnd_110 : decode cX4_readEnd 110 = .ok (.bipush 16, 2) := by decide +kernel
theorem dX4_readEnd_112 : decode cX4_readEnd 112 = .ok (.invokevirtual 73, 3) := by decide +kernel
theorem dX4_readEnd_115 : decode cX4_readEnd 115 = .ok (.ireturn, 1) := by decide +kernel
theorem dX4_openStep_0 : decode cX4_openStep 0 = .ok (.aload_n 0, 1) := by decide +kernel
theorem dX4_openStep_1 : decode cX4_openStep 1 = .ok (.getfield 21, 3) := by decide +kernel
theorem dX4_openStep_4 : decode cX4_openStep 4 = .ok (.getfield 43, 3) := by decide +kernel
theorem dX4_openStep_7 : decode cX4_openStep 7 = .ok (.istore_n 1, 1) := by decide +kernel
theorem dX4_openStep_8 : decode cX4_openStep 8 = .ok (.iload_n 1, 1) := by decide +kernel
theorem dX4_openStep_9 : decode cX4_openStep 9 = .ok (.bipush 10, 2) := by decide +kernel
theorem dX4_openStep_11 : decode cX4_openStep 11 = .ok (.if_icmp .eq 9, 3) := by decide +kernel
theorem dX4_openStep_14 : decode cX4_openStep 14 = .ok (.iload_n 1, 1) := by decide +kernel
theorem dX4_openStep_15 : decode cX4_openStep 15 = .ok (.bipush 15, 2) := by decide +kernel
theorem dX4_openStep_17 : decode cX4_openStep 17 = .ok (.if_icmp .ne 7, 3) := by decide +kernel
theorem dX4_openStep_20 : decode cX4_openStep 20 = .ok (.iconst 1, 1) := by decide +kernel
theorem dX4_openStep_21 : decode cX4_openStep 21 = .ok (.goto 4, 3) := by decide +kernel
theorem dX4_openStep_24 : decode cX4_openStep 24 = .ok (.iconst 0, 1) := by decide +kernel
theorem dX4_openStep_25 : decode cX4_openStep 25 = .ok (.istore_n 2, 1) := by decide +kernel
theorem dX4_openStep_26 : decode cX4_openStep 26 = .ok (.iload_n 2, 1) := by decide +kernel
theorem dX4_openStep_27 : decode cX4_openStep 27 = .ok (.ifCond .ne 36, 3) := by decide +kernel
theorem dX4_openStep_30 : decode cX4_openStep 30 = .ok (.iload_n 1, 1) := by decide +kernel
theorem dX4_openStep_31 : decode cX4_openStep 31 = .ok (.bipush 6, 2) := by decide +kernel
theorem dX4_openStep_33 : decode cX4_openStep 33 = .ok (.if_icmp .eq 30, 3) := by decide +kernel
theorem dX4_openStep_36 : decode cX4_openStep 36 = .ok (.iload_n 1, 1) := by decide +kernel
theorem dX4_openStep_37 : decode cX4_openStep 37 = .ok (.bipush 7, 2) := by decide +kernel
theorem dX4_openStep_39 : decode cX4_openStep 39 = .ok (.if_icmp .eq 24, 3) := by decide +kernel
theorem dX4_openStep_42 : decode cX4_openStep 42 = .ok (.iload_n 1, 1) := by decide +kernel
theorem dX4_openStep_43 : decode cX4_openStep 43 = .ok (.bipush 9, 2) := by decide +kernel
theorem dX4_openStep_45 : decode cX4_openStep 45 = .ok (.if_icmp .eq 18, 3) := by decide +kernel
theorem dX4_openStep_48 : decode cX4_openStep 48 = .ok (.iload_n 1, 1) := by decide +kernel
theorem dX4_openStep_49 : decode cX4_openStep 49 = .ok (.bipush 17, 2) := by decide +kernel
theorem dX4_openStep_51 : decode cX4_openStep 51 = .ok (.if_icmp .eq 12, 3) := by decide +kernel
theorem dX4_openStep_54 : decode cX4_openStep 54 = .ok (.aload_n 0, 1) := by decide +kernel
theorem dX4_openStep_55 : decode cX4_openStep 55 = .ok (.getfield 21, 3) := by decide +kernel
theorem dX4_openStep_58 : decode cX4_openStep 58 = .ok (.iconst 2, 1) := by decide +kernel
theorem dX4_openStep_59 : decode cX4_openStep 59 = .ok (.invokevirtual 60, 3) := by decide +kernel
theorem dX4_openStep_62 : decode cX4_openStep 62 = .ok (.ireturn, 1) := by decide +kernel
theorem dX4_openStep_63 : decode cX4_openStep 63 = .ok (.aload_n 0, 1) := by decide +kernel
theorem dX4_openStep_64 : decode cX4_openStep 64 = .ok (.getfield 12, 3) := by decide +kernel
theorem dX4_openStep_67 : decode cX4_openStep 67 = .ok (.getfield 76, 3) := by decide +kernel
theorem dX4_openStep_70 : decode cX4_openStep 70 = .ok (.bipush 30, 2) := by decide +kernel
theorem dX4_openStep_72 : decode cX4_openStep 72 = .ok (.if_icmp .ge 15, 3) := by decide +kernel
theorem dX4_openStep_75 : decode cX4_openStep 75 = .ok (.aload_n 0, 1) := by decide +kernel
theorem dX4_openStep_76 : decode cX4_openStep 76 = .ok (.getfield 12, 3) := by decide +kernel
theorem dX4_openStep_79 : decode cX4_openStep 79 = .ok (.getfield 64, 3) := by decide +kernel
theorem dX4_openStep_82 : decode cX4_openStep 82 = .ok (.bipush 60, 2) := by decide +kernel
theorem dX4_openStep_84 : decode cX4_openStep 84 = .ok (.if_icmp .lt 13, 3) := by decide +kernel
theorem dX4_openStep_87 : decode cX4_openStep 87 = .ok (.aload_n 0, 1) := by decide +kernel
theorem dX4_openStep_88 : decode cX4_openStep 88 = .ok (.getfield 21, 3) := by decide +kernel
theorem dX4_openStep_91 : decode cX4_openStep 91 = .ok (.bipush 6, 2) := by decide +kernel
theorem dX4_openStep_93 : decode cX4_openStep 93 = .ok (.invokevirtual 60, 3) := by decide +kernel
theorem dX4_openStep_96 : decode cX4_openStep 96 = .ok (.ireturn, 1) := by decide +kernel
theorem dX4_openStep_97 : decode cX4_openStep 97 = .ok (.iload_n 2, 1) := by decide +kernel
theorem dX4_openStep_98 : decode cX4_openStep 98 = .ok (.ifCond .eq 21, 3) := by decide +kernel
theorem dX4_openStep_101 : decode cX4_openStep 101 = .ok (.aload_n 0, 1) := by decide +kernel
theorem dX4_openStep_102 : decode cX4_openStep 102 = .ok (.getfield 29, 3) := by decide +kernel
theorem dX4_openStep_105 : decode cX4_openStep 105 = .ok (.iconst 3, 1) := by decide +kernel
theorem dX4_openStep_106 : decode cX4_openStep 106 = .ok (.if_icmp .lt 13, 3) := by decide +kernel
theorem dX4_openStep_109 : decode cX4_openStep 109 = .ok (.aload_n 0, 1) := by decide +kernel
theorem dX4_openStep_110 : decode cX4_openStep 110 = .ok (.getfield 21, 3) := by decide +kernel
theorem dX4_openStep_113 : decode cX4_openStep 113 = .ok (.bipush 7, 2) := by decide +kernel
theorem dX4_openStep_115 : decode cX4_openStep 115 = .ok (.invokevirtual 60, 3) := by decide +kernel
theorem dX4_openStep_118 : decode cX4_openStep 118 = .ok (.ireturn, 1) := by decide +kernel
theorem dX4_openStep_119 : decode cX4_openStep 119 = .ok (.aload_n 0, 1) := by decide +kernel
theorem dX4_openStep_120 : decode cX4_openStep 120 = .ok (.getfield 12, 3) := by decide +kernel
theorem dX4_openStep_123 : decode cX4_openStep 123 = .ok (.getfield 64, 3) := by decide +kernel
theorem dX4_openStep_126 : decode cX4_openStep 126 = .ok (.istore_n 3, 1) := by decide +kernel
theorem dX4_openStep_127 : decode cX4_openStep 127 = .ok (.iload_n 2, 1) := by decide +kernel
theorem dX4_openStep_128 : decode cX4_openStep 128 = .ok (.ifCond .eq 23, 3) := by decide +kernel
theorem dX4_openStep_131 : decode cX4_openStep 131 = .ok (.aload_n 0, 1) := by decide +kernel
theorem dX4_openStep_132 : decode cX4_openStep 132 = .ok (.getfield 25, 3) := by decide +kernel
theorem dX4_openStep_135 : decode cX4_openStep 135 = .ok (.aload_n 0, 1) := by decide +kernel
theorem dX4_openStep_136 : decode cX4_openStep 136 = .ok (.getfield 29, 3) := by decide +kernel
theorem dX4_openStep_139 : decode cX4_openStep 139 = .ok (.iload_n 3, 1) := by decide +kernel
theorem dX4_openStep_140 : decode cX4_openStep 140 = .ok (.iastore, 1) := by decide +kernel
theorem dX4_openStep_141 : decode cX4_openStep 141 = .ok (.aload_n 0, 1) := by decide +kernel
theorem dX4_openStep_142 : decode cX4_openStep 142 = .ok (.dup, 1) := by decide +kernel
theorem dX4_openStep_143 : decode cX4_openStep 143 = .ok (.getfield 29, 3) := by decide +kernel
theorem dX4_openStep_146 : decode cX4_openStep 146 = .ok (.iconst 1, 1) := by decide +kernel
theorem dX4_openStep_147 : decode cX4_openStep 147 = .ok (.iadd, 1) := by decide +kernel
theorem dX4_openStep_148 : decode cX4_openStep 148 = .ok (.putfield 29, 3) := by decide +kernel
theorem dX4_openStep_151 : decode cX4_openStep 151 = .ok (.aload_n 0, 1) := by decide +kernel
theorem dX4_openStep_152 : decode cX4_openStep 152 = .ok (.getfield 12, 3) := by decide +kernel
theorem dX4_openStep_155 : decode cX4_openStep 155 = .ok (.getfield 67, 3) := by decide +kernel
theorem dX4_openStep_158 : decode cX4_openStep 158 = .ok (.iload_n 3, 1) := by decide +kernel
theorem dX4_openStep_159 : decode cX4_openStep 159 = .ok (.iload_n 1, 1) := by decide +kernel
theorem dX4_openStep_160 : decode cX4_openStep 160 = .ok (.iastore, 1) := by decide +kernel
theorem dX4_openStep_161 : decode cX4_openStep 161 = .ok (.aload_n 0, 1) := by decide +kernel
theorem dX4_openStep_162 : decode cX4_openStep 162 = .ok (.getfield 12, 3) := by decide +kernel
theorem dX4_openStep_165 : decode cX4_openStep 165 = .ok (.dup, 1) := by decide +kernel
theorem dX4_openStep_166 : decode cX4_openStep 166 = .ok (.getfield 76, 3) := by decide +kernel
theorem dX4_openStep_169 : decode cX4_openStep 169 = .ok (.iconst 1, 1) := by decide +kernel
theorem dX4_openStep_170 : decode cX4_openStep 170 = .ok (.iadd, 1) := by decide +kernel
theorem dX4_openStep_171 : decode cX4_openStep 171 = .ok (.putfield 76, 3) := by decide +kernel
theorem dX4_openStep_174 : decode cX4_openStep 174 = .ok (.aload_n 0, 1) := by decide +kernel
theorem dX4_openStep_175 : decode cX4_openStep 175 = .ok (.getfield 12, 3) := by decide +kernel
theorem dX4_openStep_178 : decode cX4_openStep 178 = .ok (.dup, 1) := by decide +kernel
theorem dX4_openStep_179 : decode cX4_openStep 179 = .ok (.getfield 64, 3) := by decide +kernel
theorem dX4_openStep_182 : decode cX4_openStep 182 = .ok (.iconst 1, 1) := by decide +kernel
theorem dX4_openStep_183 : decode cX4_openStep 183 = .ok (.iadd, 1) := by decide +kernel
theorem dX4_openStep_184 : decode cX4_openStep 184 = .ok (.putfield 64, 3) := by decide +kernel
theorem dX4_openStep_187 : decode cX4_openStep 187 = .ok (.aload_n 0, 1) := by decide +kernel
theorem dX4_openStep_188 : decode cX4_openStep 188 = .ok (.getfield 21, 3) := by decide +kernel
theorem dX4_openStep_191 : decode cX4_openStep 191 = .ok (.invokevirtual 79, 3) := by decide +kernel
theorem dX4_openStep_194 : decode cX4_openStep 194 = .ok (.iconst 1, 1) := by decide +kernel
theorem dX4_openStep_195 : decode cX4_openStep 195 = .ok (.ireturn, 1) := by decide +kernel
theorem dX4_readRest_0 : decode cX4_readRest 0 = .ok (.aload_n 0, 1) := by decide +kernel
theorem dX4_readRest_1 : decode cX4_readRest 1 = .ok (.getfield 12, 3) := by decide +kernel
theorem dX4_readRest_4 : decode cX4_readRest 4 = .ok (.getfield 64, 3) := by decide +kernel
theorem dX4_readRest_7 : decode cX4_readRest 7 = .ok (.iconst 1, 1) := by decide +kernel
theorem dX4_readRest_8 : decode cX4_readRest 8 = .ok (.isub, 1) := by decide +kernel
theorem dX4_readRest_9 : decode cX4_readRest 9 = .ok (.istore_n 2, 1) := by decide +kernel
theorem dX4_readRest_10 : decode cX4_readRest 10 = .ok (.aload_n 0, 1) := by decide +kernel
theorem dX4_readRest_11 : decode cX4_readRest 11 = .ok (.getfield 12, 3) := by decide +kernel
theorem dX4_readRest_14 : decode cX4_readRest 14 = .ok (.getfield 67, 3) := by decide +kernel
theorem dX4_readRest_17 : decode cX4_readRest 17 = .ok (.iload_n 2, 1) := by decide +kernel
theorem dX4_readRest_18 : decode cX4_readRest 18 = .ok (.iaload, 1) := by decide +kernel
theorem dX4_readRest_19 : decode cX4_readRest 19 = .ok (.tableswitch 92 6 15 #[53, 53, 92, 76, 85, 92, 92, 92, 92, 76], 53) := by decide +kernel
theorem dX4_readRest_72 : decode cX4_readRest 72 = .ok (.aload_n 0, 1) := by decide +kernel
theorem dX4_readRest_73 : decode cX4_readRest 73 = .ok (.aload_n 1, 1) := by decide +kernel
theorem dX4_readRest_74 : decode cX4_readRest 74 = .ok (.iload_n 2, 1) := by decide +kernel
theorem dX4_readRest_75 : decode cX4_readRest 75 = .ok (.invokevirtual 82, 3) := by decide +kernel
theorem dX4_readRest_78 : decode cX4_readRest 78 = .ok (.ifCond .eq 15, 3) := by decide +kernel
theorem dX4_readRest_81 : decode cX4_readRest 81 = .ok (.aload_n 0, 1) := by decide +kernel
theorem dX4_readRest_82 : decode cX4_readRest 82 = .ok (.iload_n 2, 1) := by decide +kernel
theorem dX4_readRest_83 : decode cX4_readRest 83 = .ok (.invokevirtual 86, 3) := by decide +kernel
theorem dX4_readRest_86 : decode cX4_readRest 86 = .ok (.ifCond .eq 7, 3) := by decide +kernel
theorem dX4_readRest_89 : decode cX4_readRest 89 = .ok (.iconst 1, 1) := by decide +kernel
theorem dX4_readRest_90 : decode cX4_readRest 90 = .ok (.goto 4, 3) := by decide +kernel
theorem dX4_readRest_93 : decode cX4_readRest 93 = .ok (.iconst 0, 1) := by decide +kernel
theorem dX4_readRest_94 : decode cX4_readRest 94 = .ok (.ireturn, 1) := by decide +kernel
theorem dX4_readRest_95 : decode cX4_readRest 95 = .ok (.aload_n 0, 1) := by decide +kernel
theorem dX4_readRest_96 : decode cX4_readRest 96 = .ok (.iload_n 2, 1) := by decide +kernel
theorem dX4_readRest_97 : decode cX4_readRest 97 = .ok (.iconst 1, 1) := by decide +kernel
theorem dX4_readRest_98 : decode cX4_readRest 98 = .ok (.bipush 99, 2) := by decide +kernel
theorem dX4_readRest_100 : decode cX4_readRest 100 = .ok (.invokevirtual 89, 3) := by decide +kernel
theorem dX4_readRest_103 : decode cX4_readRest 103 = .ok (.ireturn, 1) := by decide +kernel
theorem dX4_readRest_104 : decode cX4_readRest 104 = .ok (.aload_n 0, 1) := by decide +kernel
theorem dX4_readRest_105 : decode cX4_readRest 105 = .ok (.aload_n 1, 1) := by decide +kernel
theorem dX4_readRest_106 : decode cX4_readRest 106 = .ok (.iload_n 2, 1) := by decide +kernel
theorem dX4_readRest_107 : decode cX4_readRest 107 = .ok (.invokevirtual 93, 3) := by decide +kernel
theorem dX4_readRest_110 : decode cX4_readRest 110 = .ok (.ireturn, 1) := by decide +kernel
theorem dX4_readRest_111 : decode cX4_readRest 111 = .ok (.iconst 1, 1) := by decide +kernel
theorem dX4_readRest_112 : decode cX4_readRest 112 = .ok (.ireturn, 1) := by decide +kernel
theorem dX4_readCell_0 : decode cX4_readCell 0 = .ok (.aload_n 0, 1) := by decide +kernel
theorem dX4_readCell_1 : decode cX4_readCell 1 = .ok (.getfield 21, 3) := by decide +kernel
theorem dX4_readCell_4 : decode cX4_readCell 4 = .ok (.iconst 0, 1) := by decide +kernel
theorem dX4_readCell_5 : decode cX4_readCell 5 = .ok (.aload_n 1, 1) := by decide +kernel
theorem dX4_readCell_6 : decode cX4_readCell 6 = .ok (.getfield 96, 3) := by decide +kernel
theorem dX4_readCell_9 : decode cX4_readCell 9 = .ok (.iconst 1, 1) := by decide +kernel
theorem dX4_readCell_10 : decode cX4_readCell 10 = .ok (.isub, 1) := by decide +kernel
theorem dX4_readCell_11 : decode cX4_readCell 11 = .ok (.invokevirtual 101, 3) := by decide +kernel
theorem dX4_readCell_14 : decode cX4_readCell 14 = .ok (.ifCond .ne 5, 3) := by decide +kernel
theorem dX4_readCell_17 : decode cX4_readCell 17 = .ok (.iconst 0, 1) := by decide +kernel
theorem dX4_readCell_18 : decode cX4_readCell 18 = .ok (.ireturn, 1) := by decide +kernel
theorem dX4_readCell_19 : decode cX4_readCell 19 = .ok (.aload_n 0, 1) := by decide +kernel
theorem dX4_readCell_20 : decode cX4_readCell 20 = .ok (.getfield 21, 3) := by decide +kernel
theorem dX4_readCell_23 : decode cX4_readCell 23 = .ok (.getfield 105, 3) := by decide +kernel
theorem dX4_readCell_26 : decode cX4_readCell 26 = .ok (.istore_n 3, 1) := by decide +kernel
theorem dX4_readCell_27 : decode cX4_readCell 27 = .ok (.aload_n 0, 1) := by decide +kernel
theorem dX4_readCell_28 : decode cX4_readCell 28 = .ok (.getfield 21, 3) := by decide +kernel
theorem dX4_readCell_31 : decode cX4_readCell 31 = .ok (.iconst 0, 1) := by decide +kernel
theorem dX4_readCell_32 : decode cX4_readCell 32 = .ok (.aload_n 1, 1) := by decide +kernel
theorem dX4_readCell_33 : decode cX4_readCell 33 = .ok (.getfield 108, 3) := by decide +kernel
theorem dX4_readCell_36 : decode cX4_readCell 36 = .ok (.iconst 1, 1) := by decide +kernel
theorem dX4_readCell_37 : decode cX4_readCell 37 = .ok (.isub, 1) := by decide +kernel
theorem dX4_readCell_38 : decode cX4_readCell 38 = .ok (.invokevirtual 101, 3) := by decide +kernel
theorem dX4_readCell_41 : decode cX4_readCell 41 = .ok (.ifCond .ne 5, 3) := by decide +kernel
theorem dX4_readCell_44 : decode cX4_readCell 44 = .ok (.iconst 0, 1) := by decide +kernel
theorem dX4_readCell_45 : decode cX4_readCell 45 = .ok (.ireturn, 1) := by decide +kernel
theorem dX4_readCell_46 : decode cX4_readCell 46 = .ok (.aload_n 0, 1) := by decide +kernel
theorem dX4_readCell_47 : decode cX4_readCell 47 = .ok (.getfield 12, 3) := by decide +kernel
theorem dX4_readCell_50 : decode cX4_readCell 50 = .ok (.getfield 109, 3) := by decide +kernel
theorem dX4_readCell_53 : decode cX4_readCell 53 = .ok (.iload_n 2, 1) := by decide +kernel
theorem dX4_readCell_54 : decode cX4_readCell 54 = .ok (.aload_n 0, 1) := by decide +kernel
theorem dX4_readCell_55 : decode cX4_readCell 55 = .ok (.getfield 21, 3) := by decide +kernel
theorem dX4_readCell_58 : decode cX4_readCell 58 = .ok (.getfield 105, 3) := by decide +kernel
theorem dX4_readCell_61 : decode cX4_readCell 61 = .ok (.aload_n 1, 1) := by decide +kernel
theorem dX4_readCell_62 : decode cX4_readCell 62 = .ok (.getfield 96, 3) := by decide +kernel
theorem dX4_readCell_65 : decode cX4_readCell 65 = .ok (.imul, 1) := by decide +kernel
theorem dX4_readCell_66 : decode cX4_readCell 66 = .ok (.iload_n 3, 1) := by decide +kernel
theorem dX4_readCell_67 : decode cX4_readCell 67 = .ok (.iadd, 1) := by decide +kernel
theorem dX4_readCell_68 : decode cX4_readCell 68 = .ok (.iastore, 1) := by decide +kernel
theorem dX4_readCell_69 : decode cX4_readCell 69 = .ok (.iconst 1, 1) := by decide +kernel
theorem dX4_readCell_70 : decode cX4_readCell 70 = .ok (.ireturn, 1) := by decide +kernel
theorem dX4_readBy_0 : decode cX4_readBy 0 = .ok (.aload_n 0, 1) := by decide +kernel
theorem dX4_readBy_1 : decode cX4_readBy 1 = .ok (.getfield 12, 3) := by decide +kernel
theorem dX4_readBy_4 : decode cX4_readBy 4 = .ok (.getfield 112, 3) := by decide +kernel
theorem dX4_readBy_7 : decode cX4_readBy 7 = .ok (.iload_n 1, 1) := by decide +kernel
theorem dX4_readBy_8 : decode cX4_readBy 8 = .ok (.iconst 1, 1) := by decide +kernel
theorem dX4_readBy_9 : decode cX4_readBy 9 = .ok (.iastore, 1) := by decide +kernel
theorem dX4_readBy_10 : decode cX4_readBy 10 = .ok (.aload_n 0, 1) := by decide +kernel
theorem dX4_readBy_11 : decode cX4_readBy 11 = .ok (.getfield 21, 3) := by decide +kernel
theorem dX4_readBy_14 : decode cX4_readBy 14 = .ok (.getfield 43, 3) := by decide +kernel
theorem dX4_readBy_17 : decode cX4_readBy 17 = .ok (.bipush 8, 2) := by decide +kernel
theorem dX4_readBy_19 : decode cX4_readBy 19 = .ok (.if_icmp .eq 5, 3) := by decide +kernel
theorem dX4_readBy_22 : decode cX4_readBy 22 = .ok (.iconst 1, 1) := by decide +kernel
theorem dX4_readBy_23 : decode cX4_readBy 23 = .ok (.ireturn, 1) := by decide +kernel
theorem dX4_readBy_24 : decode cX4_readBy 24 = .ok (.aload_n 0, 1) := by decide +kernel
theorem dX4_readBy_25 : decode cX4_readBy 25 = .ok (.getfield 21, 3) := by decide +kernel
theorem dX4_readBy_28 : decode cX4_readBy 28 = .ok (.invokevirtual 79, 3) := by decide +kernel
theorem dX4_readBy_31 : decode cX4_readBy 31 = .ok (.aload_n 0, 1) := by decide +kernel
theorem dX4_readBy_32 : decode cX4_readBy 32 = .ok (.iload_n 1, 1) := by decide +kernel
theorem dX4_readBy_33 : decode cX4_readBy 33 = .ok (.iconst 1, 1) := by decide +kernel
theorem dX4_readBy_34 : decode cX4_readBy 34 = .ok (.bipush 99, 2) := by decide +kernel
theorem dX4_readBy_36 : decode cX4_readBy 36 = .ok (.invokevirtual 89, 3) := by decide +kernel
theorem dX4_readBy_39 : decode cX4_readBy 39 = .ok (.ireturn, 1) := by decide +kernel
theorem dX4_readNumber_0 : decode cX4_readNumber 0 = .ok (.aload_n 0, 1) := by decide +kernel
theorem dX4_readNumber_1 : decode cX4_readNumber 1 = .ok (.getfield 21, 3) := by decide +kernel
theorem dX4_readNumber_4 : decode cX4_readNumber 4 = .ok (.iload_n 2, 1) := by decide +kernel
theorem dX4_readNumber_5 : decode cX4_readNumber 5 = .ok (.iload_n 3, 1) := by decide +kernel
theorem dX4_readNumber_6 : decode cX4_readNumber 6 = .ok (.invokevirtual 101, 3) := by decide +kernel
theorem dX4_readNumber_9 : decode cX4_readNumber 9 = .ok (.istore 4, 2) := by decide +kernel
theorem dX4_readNumber_11 : decode cX4_readNumber 11 = .ok (.aload_n 0, 1) := by decide +kernel
theorem dX4_readNumber_12 : decode cX4_readNumber 12 = .ok (.getfield 12, 3) := by decide +kernel
theorem dX4_readNumber_15 : decode cX4_readNumber 15 = .ok (.getfield 112, 3) := by decide +kernel
theorem dX4_readNumber_18 : decode cX4_readNumber 18 = .ok (.iload_n 1, 1) := by decide +kernel
theorem dX4_readNumber_19 : decode cX4_readNumber 19 = .ok (.aload_n 0, 1) := by decide +kernel
theorem dX4_readNumber_20 : decode cX4_readNumber 20 = .ok (.getfield 21, 3) := by decide +kernel
theorem dX4_readNumber_23 : decode cX4_readNumber 23 = .ok (.getfield 105, 3) := by decide +kernel
theorem dX4_readNumber_26 : decode cX4_readNumber 26 = .ok (.iastore, 1) := by decide +kernel
theorem dX4_readNumber_27 : decode cX4_readNumber 27 = .ok (.iload 4, 2) := by decide +kernel
theorem dX4_readNumber_29 : decode cX4_readNumber 29 = .ok (.ireturn, 1) := by decide +kernel
theorem dX4_readTest_0 : decode cX4_readTest 0 = .ok (.aload_n 0, 1) := by decide +kernel
theorem dX4_readTest_1 : decode cX4_readTest 1 = .ok (.getfield 21, 3) := by decide +kernel
theorem dX4_readTest_4 : decode cX4_readTest 4 = .ok (.getfield 43, 3) := by decide +kernel
theorem dX4_readTest_7 : decode cX4_readTest 7 = .ok (.istore_n 3, 1) := by decide +kernel
theorem dX4_readTest_8 : decode cX4_readTest 8 = .ok (.iload_n 3, 1) := by decide +kernel
theorem dX4_readTest_9 : decode cX4_readTest 9 = .ok (.bipush 11, 2) := by decide +kernel
theorem dX4_readTest_11 : decode cX4_readTest 11 = .ok (.if_icmp .eq 29, 3) := by decide +kernel
theorem dX4_readTest_14 : decode cX4_readTest 14 = .ok (.iload_n 3, 1) := by decide +kernel
theorem dX4_readTest_15 : decode cX4_readTest 15 = .ok (.iconst 5, 1) := by decide +kernel
theorem dX4_readTest_16 : decode cX4_readTest 16 = .ok (.if_icmp .eq 24, 3) := by decide +kernel
theorem dX4_readTest_19 : decode cX4_readTest 19 = .ok (.iload_n 3, 1) := by decide +kernel
theorem dX4_readTest_20 : decode cX4_readTest 20 = .ok (.bipush 13, 2) := by decide +kernel
theorem dX4_readTest_22 : decode cX4_readTest 22 = .ok (.if_icmp .eq 18, 3) := by decide +kernel
theorem dX4_readTest_25 : decode cX4_readTest 25 = .ok (.iload_n 3, 1) := by decide +kernel
theorem dX4_readTest_26 : decode cX4_readTest 26 = .ok (.bipush 14, 2) := by decide +kernel
theorem dX4_readTest_28 : decode cX4_readTest 28 = .ok (.if_icmp .eq 12, 3) := by decide +kernel
theorem dX4_readTest_31 : decode cX4_readTest 31 = .ok (.aload_n 0, 1) := by decide +kernel
theorem dX4_readTest_32 : decode cX4_readTest 32 = .ok (.getfield 21, 3) := by decide +kernel
theorem dX4_readTest_35 : decode cX4_readTest 35 = .ok (.iconst 2, 1) := by decide +kernel
theorem dX4_readTest_36 : decode cX4_readTest 36 = .ok (.invokevirtual 60, 3) := by decide +kernel
theorem dX4_readTest_39 : decode cX4_readTest 39 = .ok (.ireturn, 1) := by decide +kernel
theorem dX4_readTest_40 : decode cX4_readTest 40 = .ok (.aload_n 0, 1) := by decide +kernel
theorem dX4_readTest_41 : decode cX4_readTest 41 = .ok (.getfield 12, 3) := by decide +kernel
theorem dX4_readTest_44 : decode cX4_readTest 44 = .ok (.getfield 115, 3) := by decide +kernel
theorem dX4_readTest_47 : decode cX4_readTest 47 = .ok (.iload_n 2, 1) := by decide +kernel
theorem dX4_readTest_48 : decode cX4_readTest 48 = .ok (.iload_n 3, 1) := by decide +kernel
theorem dX4_readTest_49 : decode cX4_readTest 49 = .ok (.iastore, 1) := by decide +kernel
theorem dX4_readTest_50 : decode cX4_readTest 50 = .ok (.aload_n 0, 1) := by decide +kernel
theorem dX4_readTest_51 : decode cX4_readTest 51 = .ok (.getfield 21, 3) := by decide +kernel
theorem dX4_readTest_54 : decode cX4_readTest 54 = .ok (.invokevirtual 79, 3) := by decide +kernel
theorem dX4_readTest_57 : decode cX4_readTest 57 = .ok (.iload_n 3, 1) := by decide +kernel
theorem dX4_readTest_58 : decode cX4_readTest 58 = .ok (.lookupswitch 117 #[(5, 68), (11, 34), (13, 110)], 34) := by decide +kernel
theorem dX4_readTest_92 : decode cX4_readTest 92 = .ok (.aload_n 0, 1) := by decide +kernel
theorem dX4_readTest_93 : decode cX4_readTest 93 = .ok (.aload_n 1, 1) := by decide +kernel
theorem dX4_readTest_94 : decode cX4_readTest 94 = .ok (.iload_n 2, 1) := by decide +kernel
theorem dX4_readTest_95 : decode cX4_readTest 95 = .ok (.invokevirtual 82, 3) := by decide +kernel
theorem dX4_readTest_98 : decode cX4_readTest 98 = .ok (.ifCond .eq 26, 3) := by decide +kernel
theorem dX4_readTest_101 : decode cX4_readTest 101 = .ok (.aload_n 0, 1) := by decide +kernel
theorem dX4_readTest_102 : decode cX4_readTest 102 = .ok (.iload_n 2, 1) := by decide +kernel
theorem dX4_readTest_103 : decode cX4_readTest 103 = .ok (.invokevirtual 118, 3) := by decide +kernel
theorem dX4_readTest_106 : decode cX4_readTest 106 = .ok (.ifCond .eq 18, 3) := by decide +kernel
theorem dX4_readTest_109 : decode cX4_readTest 109 = .ok (.aload_n 0, 1) := by decide +kernel
theorem dX4_readTest_110 : decode cX4_readTest 110 = .ok (.iload_n 2, 1) := by decide +kernel
theorem dX4_readTest_111 : decode cX4_readTest 111 = .ok (.iconst 0, 1) := by decide +kernel
theorem dX4_readTest_112 : decode cX4_readTest 112 = .ok (.bipush 99, 2) := by decide +kernel
theorem dX4_readTest_114 : decode cX4_readTest 114 = .ok (.invokevirtual 89, 3) := by decide +kernel
theorem dX4_readTest_117 : decode cX4_readTest 117 = .ok (.ifCond .eq 7, 3) := by decide +kernel
theorem dX4_readTest_120 : decode cX4_readTest 120 = .ok (.iconst 1, 1) := by decide +kernel
theorem dX4_readTest_121 : decode cX4_readTest 121 = .ok (.goto 4, 3) := by decide +kernel
theorem dX4_readTest_124 : decode cX4_readTest 124 = .ok (.iconst 0, 1) := by decide +kernel
theorem dX4_readTest_125 : decode cX4_readTest 125 = .ok (.ireturn, 1) := by decide +kernel
theorem dX4_readTest_126 : decode cX4_readTest 126 = .ok (.aload_n 0, 1) := by decide +kernel
theorem dX4_readTest_127 : decode cX4_readTest 127 = .ok (.aload_n 1, 1) := by decide +kernel
theorem dX4_readTest_128 : decode cX4_readTest 128 = .ok (.iload_n 2, 1) := by decide +kernel
theorem dX4_readTest_129 : decode cX4_readTest 129 = .ok (.invokevirtual 121, 3) := by decide +kernel
theorem dX4_readTest_132 : decode cX4_readTest 132 = .ok (.ifCond .eq 34, 3) := by decide +kernel
theorem dX4_readTest_135 : decode cX4_readTest 135 = .ok (.aload_n 0, 1) := by decide +kernel
theorem dX4_readTest_136 : decode cX4_readTest 136 = .ok (.iload_n 2, 1) := by decide +kernel
theorem dX4_readTest_137 : decode cX4_readTest 137 = .ok (.invokevirtual 124, 3) := by decide +kernel
theorem dX4_readTest_140 : decode cX4_readTest 140 = .ok (.ifCond .eq 26, 3) := by decide +kernel
theorem dX4_readTest_143 : decode cX4_readTest 143 = .ok (.aload_n 0, 1) := by decide +kernel
theorem dX4_readTest_144 : decode cX4_readTest 144 = .ok (.iload_n 2, 1) := by decide +kernel
theorem dX4_readTest_145 : decode cX4_readTest 145 = .ok (.invokevirtual 118, 3) := by decide +kernel
theorem dX4_readTest_148 : decode cX4_readTest 148 = .ok (.ifCond .eq 18, 3) := by decide +kernel
theorem dX4_readTest_151 : decode cX4_readTest 151 = .ok (.aload_n 0, 1) := by decide +kernel
theorem dX4_readTest_152 : decode cX4_readTest 152 = .ok (.iload_n 2, 1) := by decide +kernel
theorem dX4_readTest_153 : decode cX4_readTest 153 = .ok (.iconst 0, 1) := by decide +kernel
theorem dX4_readTest_154 : decode cX4_readTest 154 = .ok (.bipush 99, 2) := by decide +kernel
theorem dX4_readTest_156 : decode cX4_readTest 156 = .ok (.invokevirtual 89, 3) := by decide +kernel
theorem dX4_readTest_159 : decode cX4_readTest 159 = .ok (.ifCond .eq 7, 3) := by decide +kernel
theorem dX4_readTest_162 : decode cX4_readTest 162 = .ok (.iconst 1, 1) := by decide +kernel
theorem dX4_readTest_163 : decode cX4_readTest 163 = .ok (.goto 4, 3) := by decide +kernel
theorem dX4_readTest_166 : decode cX4_readTest 166 = .ok (.iconst 0, 1) := by decide +kernel
theorem dX4_readTest_167 : decode cX4_readTest 167 = .ok (.ireturn, 1) := by decide +kernel
theorem dX4_readTest_168 : decode cX4_readTest 168 = .ok (.aload_n 0, 1) := by decide +kernel
theorem dX4_readTest_169 : decode cX4_readTest 169 = .ok (.aload_n 1, 1) := by decide +kernel
theorem dX4_readTest_170 : decode cX4_readTest 170 = .ok (.iload_n 2, 1) := by decide +kernel
theorem dX4_readTest_171 : decode cX4_readTest 171 = .ok (.invokevirtual 121, 3) := by decide +kernel
theorem dX4_readTest_174 : decode cX4_readTest 174 = .ok (.ireturn, 1) := by decide +kernel
theorem dX4_readTest_175 : decode cX4_readTest 175 = .ok (.aload_n 0, 1) := by decide +kernel
theorem dX4_readTest_176 : decode cX4_readTest 176 = .ok (.iload_n 2, 1) := by decide +kernel
theorem dX4_readTest_177 : decode cX4_readTest 177 = .ok (.invokevirtual 118, 3) := by decide +kernel
theorem dX4_readTest_180 : decode cX4_readTest 180 = .ok (.ifCond .eq 19, 3) := by decide +kernel
theorem dX4_readTest_183 : decode cX4_readTest 183 = .ok (.aload_n 0, 1) := by decide +kernel
theorem dX4_readTest_184 : decode cX4_readTest 184 = .ok (.iload_n 2, 1) := by decide +kernel
theorem dX4_readTest_185 : decode cX4_readTest 185 = .ok (.iconst 0, 1) := by decide +kernel
theorem dX4_readTest_186 : decode cX4_readTest 186 = .ok (.sipush 9999, 3) := by decide +kernel
theorem dX4_readTest_189 : decode cX4_readTest 189 = .ok (.invokevirtual 89, 3) := by decide +kernel
theorem dX4_readTest_192 : decode cX4_readTest 192 = .ok (.ifCond .eq 7, 3) := by decide +kernel
theorem dX4_readTest_195 : decode cX4_readTest 195 = .ok (.iconst 1, 1) := by decide +kernel
theorem dX4_readTest_196 : decode cX4_readTest 196 = .ok (.goto 4, 3) := by decide +kernel
theorem dX4_readTest_199 : decode cX4_readTest 199 = .ok (.iconst 0, 1) := by decide +kernel
theorem dX4_readTest_200 : decode cX4_readTest 200 = .ok (.ireturn, 1) := by decide +kernel
theorem dX4_readName_0 : decode cX4_readName 0 = .ok (.aload_n 0, 1) := by decide +kernel
theorem dX4_readName_1 : decode cX4_readName 1 = .ok (.getfield 21, 3) := by decide +kernel
theorem dX4_readName_4 : decode cX4_readName 4 = .ok (.invokevirtual 127, 3) := by decide +kernel
theorem dX4_readName_7 : decode cX4_readName 7 = .ok (.ifCond .ne 12, 3) := by decide +kernel
theorem dX4_readName_10 : decode cX4_readName 10 = .ok (.aload_n 0, 1) := by decide +kernel
theorem dX4_readName_11 : decode cX4_readName 11 = .ok (.getfield 21, 3) := by decide +kernel
theorem dX4_readName_14 : decode cX4_readName 14 = .ok (.iconst 2, 1) := by decide +kernel
theorem dX4_readName_15 : decode cX4_readName 15 = .ok (.invokevirtual 60, 3) := by decide +kernel
theorem dX4_readName_18 : decode cX4_readName 18 = .ok (.ireturn, 1) := by decide +kernel
theorem dX4_readName_19 : decode cX4_readName 19 = .ok (.aload_n 0, 1) := by decide +kernel
theorem dX4_readName_20 : decode cX4_readName 20 = .ok (.getfield 12, 3) := by decide +kernel
theorem dX4_readName_23 : decode cX4_readName 23 = .ok (.getfield 109, 3) := by decide +kernel
theorem dX4_readName_26 : decode cX4_readName 26 = .ok (.iload_n 2, 1) := by decide +kernel
theorem dX4_readName_27 : decode cX4_readName 27 = .ok (.aload_n 1, 1) := by decide +kernel
theorem dX4_readName_28 : decode cX4_readName 28 = .ok (.aload_n 0, 1) := by decide +kernel
theorem dX4_readName_29 : decode cX4_readName 29 = .ok (.getfield 21, 3) := by decide +kernel
theorem dX4_readName_32 : decode cX4_readName 32 = .ok (.getfield 130, 3) := by decide +kernel
theorem dX4_readName_35 : decode cX4_readName 35 = .ok (.invokevirtual 134, 3) := by decide +kernel
theorem dX4_readName_38 : decode cX4_readName 38 = .ok (.iastore, 1) := by decide +kernel
theorem dX4_readName_39 : decode cX4_readName 39 = .ok (.aload_n 0, 1) := by decide +kernel
theorem dX4_readName_40 : decode cX4_readName 40 = .ok (.getfield 12, 3) := by decide +kernel
theorem dX4_readName_43 : decode cX4_readName 43 = .ok (.getfield 109, 3) := by decide +kernel
theorem dX4_readName_46 : decode cX4_readName 46 = .ok (.iload_n 2, 1) := by decide +kernel
theorem dX4_readName_47 : decode cX4_readName 47 = .ok (.iaload, 1) := by decide +kernel
theorem dX4_readName_48 : decode cX4_readName 48 = .ok (.iconst (-1), 1) := by decide +kernel
theorem dX4_readName_49 : decode cX4_readName 49 = .ok (.if_icmp .ne 12, 3) := by decide +kernel
theorem dX4_readName_52 : decode cX4_readName 52 = .ok (.aload_n 0, 1) := by decide +kernel
theorem dX4_readName_53 : decode cX4_readName 53 = .ok (.getfield 21, 3) := by decide +kernel
theorem dX4_readName_56 : decode cX4_readName 56 = .ok (.iconst 3, 1) := by decide +kernel
theorem dX4_readName_57 : decode cX4_readName 57 = .ok (.invokevirtual 60, 3) := by decide +kernel
theorem dX4_readName_60 : decode cX4_readName 60 = .ok (.ireturn, 1) := by decide +kernel
theorem dX4_readName_61 : decode cX4_readName 61 = .ok (.aload_n 0, 1) := by decide +kernel
theorem dX4_readName_62 : decode cX4_readName 62 = .ok (.getfield 21, 3) := by decide +kernel
theorem dX4_readName_65 : decode cX4_readName 65 = .ok (.invokevirtual 79, 3) := by decide +kernel
theorem dX4_readName_68 : decode cX4_readName 68 = .ok (.iconst 1, 1) := by decide +kernel
theorem dX4_readName_69 : decode cX4_readName 69 = .ok (.ireturn, 1) := by decide +kernel
theorem dX4_readStrip_0 : decode cX4_readStrip 0 = .ok (.aload_n 0, 1) := by decide +kernel
theorem dX4_readStrip_1 : decode cX4_readStrip 1 = .ok (.getfield 21, 3) := by decide +kernel
theorem dX4_readStrip_4 : decode cX4_readStrip 4 = .ok (.bipush 12, 2) := by decide +kernel
theorem dX4_readStrip_6 : decode cX4_readStrip 6 = .ok (.invokevirtual 73, 3) := by decide +kernel
theorem dX4_readStrip_9 : decode cX4_readStrip 9 = .ok (.ifCond .eq 20, 3) := by decide +kernel
theorem dX4_readStrip_12 : decode cX4_readStrip 12 = .ok (.aload_n 0, 1) := by decide +kernel
theorem dX4_readStrip_13 : decode cX4_readStrip 13 = .ok (.getfield 21, 3) := by decide +kernel
theorem dX4_readStrip_16 : decode cX4_readStrip 16 = .ok (.iconst 0, 1) := by decide +kernel
theorem dX4_readStrip_17 : decode cX4_readStrip 17 = .ok (.bipush 8, 2) := by decide +kernel
theorem dX4_readStrip_19 : decode cX4_readStrip 19 = .ok (.invokevirtual 101, 3) := by decide +kernel
theorem dX4_readStrip_22 : decode cX4_readStrip 22 = .ok (.ifCond .eq 7, 3) := by decide +kernel
theorem dX4_readStrip_25 : decode cX4_readStrip 25 = .ok (.iconst 1, 1) := by decide +kernel
theorem dX4_readStrip_26 : decode cX4_readStrip 26 = .ok (.goto 4, 3) := by decide +kernel
theorem dX4_readStrip_29 : decode cX4_readStrip 29 = .ok (.iconst 0, 1) := by decide +kernel
theorem dX4_readStrip_30 : decode cX4_readStrip 30 = .ok (.istore_n 2, 1) := by decide +kernel
theorem dX4_readStrip_31 : decode cX4_readStrip 31 = .ok (.aload_n 0, 1) := by decide +kernel
theorem dX4_readStrip_32 : decode cX4_readStrip 32 = .ok (.getfield 12, 3) := by decide +kernel
theorem dX4_readStrip_35 : decode cX4_readStrip 35 = .ok (.getfield 138, 3) := by decide +kernel
theorem dX4_readStrip_38 : decode cX4_readStrip 38 = .ok (.iload_n 1, 1) := by decide +kernel
theorem dX4_readStrip_39 : decode cX4_readStrip 39 = .ok (.aload_n 0, 1) := by decide +kernel
theorem dX4_readStrip_40 : decode cX4_readStrip 40 = .ok (.getfield 21, 3) := by decide +kernel
theorem dX4_readStrip_43 : decode cX4_readStrip 43 = .ok (.getfield 105, 3) := by decide +kernel
theorem dX4_readStrip_46 : decode cX4_readStrip 46 = .ok (.iastore, 1) := by decide +kernel
theorem dX4_readStrip_47 : decode cX4_readStrip 47 = .ok (.iload_n 2, 1) := by decide +kernel
theorem dX4_readStrip_48 : decode cX4_readStrip 48 = .ok (.ireturn, 1) := by decide +kernel
theorem dX4_readCompares_0 : decode cX4_readCompares 0 = .ok (.aload_n 0, 1) := by decide +kernel
theorem dX4_readCompares_1 : decode cX4_readCompares 1 = .ok (.getfield 21, 3) := by decide +kernel
theorem dX4_readCompares_4 : decode cX4_readCompares 4 = .ok (.invokevirtual 141, 3) := by decide +kernel
theorem dX4_readCompares_7 : decode cX4_readCompares 7 = .ok (.istore_n 2, 1) := by decide +kernel
theorem dX4_readCompares_8 : decode cX4_readCompares 8 = .ok (.aload_n 0, 1) := by decide +kernel
theorem dX4_readCompares_9 : decode cX4_readCompares 9 = .ok (.getfield 12, 3) := by decide +kernel
theorem dX4_readCompares_12 : decode cX4_readCompares 12 = .ok (.getfield 144, 3) := by decide +kernel
theorem dX4_readCompares_15 : decode cX4_readCompares 15 = .ok (.iload_n 1, 1) := by decide +kernel
theorem dX4_readCompares_16 : decode cX4_readCompares 16 = .ok (.aload_n 0, 1) := by decide +kernel
theorem dX4_readCompares_17 : decode cX4_readCompares 17 = .ok (.getfield 21, 3) := by decide +kernel
theorem dX4_readCompares_20 : decode cX4_readCompares 20 = .ok (.getfield 105, 3) := by decide +kernel
theorem dX4_readCompares_23 : decode cX4_readCompares 23 = .ok (.iastore, 1) := by decide +kernel
theorem dX4_readCompares_24 : decode cX4_readCompares 24 = .ok (.iload_n 2, 1) := by decide +kernel
theorem dX4_readCompares_25 : decode cX4_readCompares 25 = .ok (.ireturn, 1) := by decide +kernel
theorem dX5_init_0 : decode cX5_init 0 = .ok (.aload_n 0, 1) := by decide +kernel
theorem dX5_init_1 : decode cX5_init 1 = .ok (.invokespecial 3, 3) := by decide +kernel
theorem dX5_init_4 : decode cX5_init 4 = .ok (.aload_n 0, 1) := by decide +kernel
theorem dX5_init_5 : decode cX5_init 5 = .ok (.bipush 25, 2) := by decide +kernel
theorem dX5_init_7 : decode cX5_init 7 = .ok (.newarray .int, 2) := by decide +kernel
theorem dX5_init_9 : decode cX5_init 9 = .ok (.putfield 9, 3) := by decide +kernel
theorem dX5_init_12 : decode cX5_init 12 = .ok (.aload_n 0, 1) := by decide +kernel
theorem dX5_init_13 : decode cX5_init 13 = .ok (.bipush 25, 2) := by decide +kernel
theorem dX5_init_15 : decode cX5_init 15 = .ok (.newarray .int, 2) := by decide +kernel
theorem dX5_init_17 : decode cX5_init 17 = .ok (.putfield 15, 3) := by decide +kernel
theorem dX5_init_20 : decode cX5_init 20 = .ok (.aload_n 0, 1) := by decide +kernel
theorem dX5_init_21 : decode cX5_init 21 = .ok (.bipush 25, 2) := by decide +kernel
theorem dX5_init_23 : decode cX5_init 23 = .ok (.newarray .int, 2) := by decide +kernel
theorem dX5_init_25 : decode cX5_init 25 = .ok (.putfield 18, 3) := by decide +kernel
theorem dX5_init_28 : decode cX5_init 28 = .ok (.aload_n 0, 1) := by decide +kernel
theorem dX5_init_29 : decode cX5_init 29 = .ok (.bipush 6, 2) := by decide +kernel
theorem dX5_init_31 : decode cX5_init 31 = .ok (.newarray .long, 2) := by decide +kernel
theorem dX5_init_33 : decode cX5_init 33 = .ok (.putfield 21, 3) := by decide +kernel
theorem dX5_init_36 : decode cX5_init 36 = .ok (.aload_n 0, 1) := by decide +kernel
theorem dX5_init_37 : decode cX5_init 37 = .ok (.bipush 6, 2) := by decide +kernel
theorem dX5_init_39 : decode cX5_init 39 = .ok (.newarray .int, 2) := by decide +kernel
theorem dX5_init_41 : decode cX5_init 41 = .ok (.putfield 25, 3) := by decide +kernel
theorem dX5_init_44 : decode cX5_init 44 = .ok (.aload_n 0, 1) := by decide +kernel
theorem dX5_init_45 : decode cX5_init 45 = .ok (.bipush 54, 2) := by decide +kernel
theorem dX5_init_47 : decode cX5_init 47 = .ok (.newarray .int, 2) := by decide +kernel
theorem dX5_init_49 : decode cX5_init 49 = .ok (.putfield 28, 3) := by decide +kernel
theorem dX5_init_52 : decode cX5_init 52 = .ok (.aload_n 0, 1) := by decide +kernel
theorem dX5_init_53 : decode cX5_init 53 = .ok (.sipush 200, 3) := by decide +kernel
theorem dX5_init_56 : decode cX5_init 56 = .ok (.newarray .int, 2) := by decide +kernel
theorem dX5_init_58 : decode cX5_init 58 = .ok (.putfield 31, 3) := by decide +kernel
theorem dX5_init_61 : decode cX5_init 61 = .ok (.aload_n 0, 1) := by decide +kernel
theorem dX5_init_62 : decode cX5_init 62 = .ok (.bipush 9, 2) := by decide +kernel
theorem dX5_init_64 : decode cX5_init 64 = .ok (.newarray .int, 2) := by decide +kernel
theorem dX5_init_66 : decode cX5_init 66 = .ok (.putfield 34, 3) := by decide +kernel
theorem dX5_init_69 : decode cX5_init 69 = .ok (.return_, 1) := by decide +kernel
theorem dX5_begin_0 : decode cX5_begin 0 = .ok (.aload_n 0, 1) := by decide +kernel
theorem dX5_begin_1 : decode cX5_begin 1 = .ok (.iload_n 1, 1) := by decide +kernel
theorem dX5_begin_2 : decode cX5_begin 2 = .ok (.putfield 37, 3) := by decide +kernel
theorem dX5_begin_5 : decode cX5_begin 5 = .ok (.aload_n 0, 1) := by decide +kernel
theorem dX5_begin_6 : decode cX5_begin 6 = .ok (.iload_n 2, 1) := by decide +kernel
theorem dX5_begin_7 : decode cX5_begin 7 = .ok (.putfield 41, 3) := by decide +kernel
theorem dX5_begin_10 : decode cX5_begin 10 = .ok (.aload_n 0, 1) := by decide +kernel
theorem dX5_begin_11 : decode cX5_begin 11 = .ok (.aload_n 0, 1) := by decide +kernel
theorem dX5_begin_12 : decode cX5_begin 12 = .ok (.getfield 37, 3) := by decide +kernel
theorem dX5_begin_15 : decode cX5_begin 15 = .ok (.aload_n 0, 1) := by decide +kernel
theorem dX5_begin_16 : decode cX5_begin 16 = .ok (.getfield 41, 3) := by decide +kernel
theorem dX5_begin_19 : decode cX5_begin 19 = .ok (.imul, 1) := by decide +kernel
theorem dX5_begin_20 : decode cX5_begin 20 = .ok (.putfield 44, 3) := by decide +kernel
theorem dX5_begin_23 : decode cX5_begin 23 = .ok (.aload_n 0, 1) := by decide +kernel
theorem dX5_begin_24 : decode cX5_begin 24 = .ok (.iconst 0, 1) := by decide +kernel
theorem dX5_begin_25 : decode cX5_begin 25 = .ok (.putfield 47, 3) := by decide +kernel
theorem dX5_begin_28 : decode cX5_begin 28 = .ok (.aload_n 0, 1) := by decide +kernel
theorem dX5_begin_29 : decode cX5_begin 29 = .ok (.iconst 0, 1) := by decide +kernel
theorem dX5_begin_30 : decode cX5_begin 30 = .ok (.putfield 50, 3) := by decide +kernel
theorem dX5_begin_33 : decode cX5_begin 33 = .ok (.aload_n 0, 1) := by decide +kernel
theorem dX5_begin_34 : decode cX5_begin 34 = .ok (.getfield 9, 3) := by decide +kernel
theorem dX5_begin_37 : decode cX5_begin 37 = .ok (.bipush 99, 2) := by decide +kernel
theorem dX5_begin_39 : decode cX5_begin 39 = .ok (.invokestatic 53, 3) := by decide +kernel
theorem dX5_begin_42 : decode cX5_begin 42 = .ok (.aload_n 0, 1) := by decide +kernel
theorem dX5_begin_43 : decode cX5_begin 43 = .ok (.getfield 15, 3) := by decide +kernel
theorem dX5_begin_46 : decode cX5_begin 46 = .ok (.iconst 0, 1) := by decide +kernel
theorem dX5_begin_47 : decode cX5_begin 47 = .ok (.invokestatic 53, 3) := by decide +kernel
theorem dX5_begin_50 : decode cX5_begin 50 = .ok (.aload_n 0, 1) := by decide +kernel
theorem dX5_begin_51 : decode cX5_begin 51 = .ok (.getfield 18, 3) := by decide +kernel
theorem dX5_begin_54 : decode cX5_begin 54 = .ok (.iconst 1, 1) := by decide +kernel
theorem dX5_begin_55 : decode cX5_begin 55 = .ok (.invokestatic 53, 3) := by decide +kernel
theorem dX5_begin_58 : decode cX5_begin 58 = .ok (.iconst 0, 1) := by decide +kernel
theorem dX5_begin_59 : decode cX5_begin 59 = .ok (.istore_n 3, 1) := by decide +kernel
theorem dX5_begin_60 : decode cX5_begin 60 = .ok (.iload_n 3, 1) := by decide +kernel
theorem dX5_begin_61 : decode cX5_begin 61 = .ok (.aload_n 0, 1) := by decide +kernel
theorem dX5_begin_62 : decode cX5_begin 62 = .ok (.getfield 41, 3) := by decide +kernel
theorem dX5_begin_65 : decode cX5_begin 65 = .ok (.if_icmp .ge 72, 3) := by decide +kernel
theorem dX5_begin_68 : decode cX5_begin 68 = .ok (.iconst 0, 1) := by decide +kernel
theorem dX5_begin_69 : decode cX5_begin 69 = .ok (.istore 4, 2) := by decide +kernel
theorem dX5_begin_71 : decode cX5_begin 71 = .ok (.iload 4, 2) := by decide +kernel
theorem dX5_begin_73 : decode cX5_begin 73 = .ok (.aload_n 0, 1) := by decide +kernel
theorem dX5_begin_74 : decode cX5_begin 74 = .ok (.getfield 37, 3) := by decide +kernel
theorem dX5_begin_77 : decode cX5_begin 77 = .ok (.if_icmp .ge 54, 3) := by decide +kernel
theorem dX5_begin_80 : decode cX5_begin 80 = .ok (.iconst 0, 1) := by decide +kernel
theorem dX5_begin_81 : decode cX5_begin 81 = .ok (.istore 5, 2) := by decide +kernel
theorem dX5_begin_83 : decode cX5_begin 83 = .ok (.iload 5, 2) := by decide +kernel
theorem dX5_begin_85 : decode cX5_begin 85 = .ok (.bipush 8, 2) := by decide +kernel
theorem dX5_begin_87 : decode cX5_begin 87 = .ok (.if_icmp .ge 38, 3) := by decide +kernel
theorem dX5_begin_90 : decode cX5_begin 90 = .ok (.aload_n 0, 1) := by decide +kernel
theorem dX5_begin_91 : decode cX5_begin 91 = .ok (.getfield 31, 3) := by decide +kernel
theorem dX5_begin_94 : decode cX5_begin 94 = .ok (.iload 5, 2) := by decide +kernel
theorem dX5_begin_96 : decode cX5_begin 96 = .ok (.bipush 25, 2) := by decide +kernel
theorem dX5_begin_98 : decode cX5_begin 98 = .ok (.imul, 1) := by decide +kernel
theorem dX5_begin_99 : decode cX5_begin 99 = .ok (.iload_n 3, 1) := by decide +kernel
theorem dX5_begin_100 : decode cX5_begin 100 = .ok (.aload_n 0, 1) := by decide +kernel
theorem dX5_begin_101 : decode cX5_begin 101 = .ok (.getfield 37, 3) := by decide +kernel
theorem dX5_begin_104 : decode cX5_begin 104 = .ok (.imul, 1) := by decide +kernel
theorem dX5_begin_105 : decode cX5_begin 105 = .ok (.iadd, 1) := by decide +kernel
theorem dX5_begin_106 : decode cX5_begin 106 = .ok (.iload 4, 2) := by decide +kernel
theorem dX5_begin_108 : decode cX5_begin 108 = .ok (.iadd, 1) := by decide +kernel
theorem dX5_begin_109 : decode cX5_begin 109 = .ok (.aload_n 0, 1) := by decide +kernel
theorem dX5_begin_110 : decode cX5_begin 110 = .ok (.iload 5, 2) := by decide +kernel
theorem dX5_begin_112 : decode cX5_begin 112 = .ok (.iload 4, 2) := by decide +kernel
theorem dX5_begin_114 : decode cX5_begin 114 = .ok (.iload_n 3, 1) := by decide +kernel
theorem dX5_begin_115 : decode cX5_begin 115 = .ok (.invokevirtual 59, 3) := by decide +kernel
theorem dX5_begin_118 : decode cX5_begin 118 = .ok (.iastore, 1) := by decide +kernel
theorem dX5_begin_119 : decode cX5_begin 119 = .ok (.iinc 5 1, 3) := by decide +kernel
theorem dX5_begin_122 : decode cX5_begin 122 = .ok (.goto (-39), 3) := by decide +kernel
theorem dX5_begin_125 : decode cX5_begin 125 = .ok (.iinc 4 1, 3) := by decide +kernel
theorem dX5_begin_128 : decode cX5_begin 128 = .ok (.goto (-57), 3) := by decide +kernel
theorem dX5_begin_131 : decode cX5_begin 131 = .ok (.iinc 3 1, 3) := by decide +kernel
theorem dX5_begin_134 : decode cX5_begin 134 = .ok (.goto (-74), 3) := by decide +kernel
theorem dX5_begin_137 : decode cX5_begin 137 = .ok (.return_, 1) := by decide +kernel
theorem dX5_stripOf_0 : decode cX5_stripOf 0 = .ok (.iload_n 1, 1) := by decide +kernel
theorem dX5_stripOf_1 : decode cX5_stripOf 1 = .ok (.tableswitch 96 0 6 #[43, 52, 68, 77, 88, 90, 94], 43) := by decide +kernel
theorem dX5_stripOf_44 : decode cX5_stripOf 44 = .ok (.aload_n 0, 1) := by decide +kernel
theorem dX5_stripOf_45 : decode cX5_stripOf 45 = .ok (.getfield 37, 3) := by decide +kernel
theorem dX5_stripOf_48 : decode cX5_stripOf 48 = .ok (.iconst 1, 1) := by decide +kernel
theorem dX5_stripOf_49 : decode cX5_stripOf 49 = .ok (.isub, 1) := by decide +kernel
theorem dX5_stripOf_50 : decode cX5_stripOf 50 = .ok (.iload_n 2, 1) := by decide +kernel
theorem dX5_stripOf_51 : decode cX5_stripOf 51 = .ok (.isub, 1) := by decide +kernel
theorem dX5_stripOf_52 : decode cX5_stripOf 52 = .ok (.ireturn, 1) := by decide +kernel
theorem dX5_stripOf_53 : decode cX5_stripOf 53 = .ok (.aload_n 0, 1) := by decide +kernel
theorem dX5_stripOf_54 : decode cX5_stripOf 54 = .ok (.getfield 37, 3) := by decide +kernel
theorem dX5_stripOf_57 : decode cX5_stripOf 57 = .ok (.aload_n 0, 1) := by decide +kernel
theorem dX5_stripOf_58 : decode cX5_stripOf 58 = .ok (.getfield 41, 3) := by decide +kernel
theorem dX5_stripOf_61 : decode cX5_stripOf 61 = .ok (.iadd, 1) := by decide +kernel
theorem dX5_stripOf_62 : decode cX5_stripOf 62 = .ok (.iconst 2, 1) := by decide +kernel
theorem dX5_stripOf_63 : decode cX5_stripOf 63 = .ok (.isub, 1) := by decide +kernel
theorem dX5_stripOf_64 : decode cX5_stripOf 64 = .ok (.iload_n 2, 1) := by decide +kernel
theorem dX5_stripOf_65 : decode cX5_stripOf 65 = .ok (.isub, 1) := by decide +kernel
theorem dX5_stripOf_66 : decode cX5_stripOf 66 = .ok (.iload_n 3, 1) := by decide +kernel
theorem dX5_stripOf_67 : decode cX5_stripOf 67 = .ok (.isub, 1) := by decide +kernel
theorem dX5_stripOf_68 : decode cX5_stripOf 68 = .ok (.ireturn, 1) := by decide +kernel
theorem dX5_stripOf_69 : decode cX5_stripOf 69 = .ok (.aload_n 0, 1) := by decide +kernel
theorem dX5_stripOf_70 : decode cX5_stripOf 70 = .ok (.getfield 41, 3) := by decide +kernel
theorem dX5_stripOf_73 : decode cX5_stripOf 73 = .ok (.iconst 1, 1) := by decide +kernel
theorem dX5_stripOf_74 : decode cX5_stripOf 74 = .ok (.isub, 1) := by decide +kernel
theorem dX5_stripOf_75 : decode cX5_stripOf 75 = .ok (.iload_n 3, 1) := by decide +kernel
theorem dX5_stripOf_76 : decode cX5_stripOf 76 = .ok (.isub, 1) := by decide +kernel
theorem dX5_stripOf_77 : decode cX5_stripOf 77 = .ok (.ireturn, 1) := by decide +kernel
theorem dX5_stripOf_78 : decode cX5_stripOf 78 = .ok (.aload_n 0, 1) := by decide +kernel
theorem dX5_stripOf_79 : decode cX5_stripOf 79 = .ok (.getfield 41, 3) := by decide +kernel
theorem dX5_stripOf_82 : decode cX5_stripOf 82 = .ok (.iconst 1, 1) := by decide +kernel
theorem dX5_stripOf_83 : decode cX5_stripOf 83 = .ok (.isub, 1) := by decide +kernel
theorem dX5_stripOf_84 : decode cX5_stripOf 84 = .ok (.iload_n 2, 1) := by decide +kernel
theorem dX5_stripOf_85 : decode cX5_stripOf 85 = .ok (.iadd, 1) := by decide +kernel
theorem dX5_stripOf_86 : decode cX5_stripOf 86 = .ok (.iload_n 3, 1) := by decide +kernel
theorem dX5_stripOf_87 : decode cX5_stripOf 87 = .ok (.isub, 1) := by decide +kernel
theorem dX5_stripOf_88 : decode cX5_stripOf 88 = .ok (.ireturn, 1) := by decide +kernel
theorem dX5_stripOf_89 : decode cX5_stripOf 89 = .ok (.iload_n 2, 1) := by decide +kernel
theorem dX5_stripOf_90 : decode cX5_stripOf 90 = .ok (.ireturn, 1) := by decide +kernel
theorem dX5_stripOf_91 : decode cX5_stripOf 91 = .ok (.iload_n 2, 1) := by decide +kernel
theorem dX5_stripOf_92 : decode cX5_stripOf 92 = .ok (.iload_n 3, 1) := by decide +kernel
theorem dX5_stripOf_93 : decode cX5_stripOf 93 = .ok (.iadd, 1) := by decide +kernel
theorem dX5_stripOf_94 : decode cX5_stripOf 94 = .ok (.ireturn, 1) := by decide +kernel
theorem dX5_stripOf_95 : decode cX5_stripOf 95 = .ok (.iload_n 3, 1) := by decide +kernel
theorem dX5_stripOf_96 : decode cX5_stripOf 96 = .ok (.ireturn, 1) := by decide +kernel
theorem dX5_stripOf_97 : decode cX5_stripOf 97 = .ok (.aload_n 0, 1) := by decide +kernel
theorem dX5_stripOf_98 : decode cX5_stripOf 98 = .ok (.getfield 37, 3) := by decide +kernel
theorem dX5_stripOf_101 : decode cX5_stripOf 101 = .ok (.iconst 1, 1) := by decide +kernel
theorem dX5_stripOf_102 : decode cX5_stripOf 102 = .ok (.isub, 1) := by decide +kernel
theorem dX5_stripOf_103 : decode cX5_stripOf 103 = .ok (.iload_n 2, 1) := by decide +kernel
theorem dX5_stripOf_104 : decode cX5_stripOf 104 = .ok (.isub, 1) := by decide +kernel
theorem dX5_stripOf_105 : decode cX5_stripOf 105 = .ok (.iload_n 3, 1) := by decide +kernel
theorem dX5_stripOf_106 : decode cX5_stripOf 106 = .ok (.iadd, 1) := by decide +kernel
theorem dX5_stripOf_107 : decode cX5_stripOf 107 = .ok (.ireturn, 1) := by decide +kernel
theorem dX5_copyFrom_0 : decode cX5_copyFrom 0 = .ok (.aload_n 0, 1) := by decide +kernel
theorem dX5_copyFrom_1 : decode cX5_copyFrom 1 = .ok (.aload_n 1, 1) := by decide +kernel
theorem dX5_copyFrom_2 : decode cX5_copyFrom 2 = .ok (.getfield 37, 3) := by decide +kernel
theorem dX5_copyFrom_5 : decode cX5_copyFrom 5 = .ok (.putfield 37, 3) := by decide +kernel
theorem dX5_copyFrom_8 : decode cX5_copyFrom 8 = .ok (.aload_n 0, 1) := by decide +kernel
theorem dX5_copyFrom_9 : decode cX5_copyFrom 9 = .ok (.aload_n 1, 1) := by decide +kernel
theorem dX5_copyFrom_10 : decode cX5_copyFrom 10 = .ok (.getfield 41, 3) := by decide +kernel
theorem dX5_copyFrom_13 : decode cX5_copyFrom 13 = .ok (.putfield 41, 3) := by decide +kernel
theorem dX5_copyFrom_16 : decode cX5_copyFrom 16 = .ok (.aload_n 0, 1) := by decide +kernel
theorem dX5_copyFrom_17 : decode cX5_copyFrom 17 = .ok (.aload_n 1, 1) := by decide +kernel
theorem dX5_copyFrom_18 : decode cX5_copyFrom 18 = .ok (.getfield 44, 3) := by decide +kernel
theorem dX5_copyFrom_21 : decode cX5_copyFrom 21 = .ok (.putfield 44, 3) := by decide +kernel
theorem dX5_copyFrom_24 : decode cX5_copyFrom 24 = .ok (.aload_n 0, 1) := by decide +kernel
theorem dX5_copyFrom_25 : decode cX5_copyFrom 25 = .ok (.aload_n 1, 1) := by decide +kernel
theorem dX5_copyFrom_26 : decode cX5_copyFrom 26 = .ok (.getfield 47, 3) := by decide +kernel
theorem dX5_copyFrom_29 : decode cX5_copyFrom 29 = .ok (.putfield 47, 3) := by decide +kernel
theorem dX5_copyFrom_32 : decode cX5_copyFrom 32 = .ok (.aload_n 0, 1) := by decide +kernel
theorem dX5_copyFrom_33 : decode cX5_copyFrom 33 = .ok (.aload_n 1, 1) := by decide +kernel
theorem dX5_copyFrom_34 : decode cX5_copyFrom 34 = .ok (.getfield 50, 3) := by decide +kernel
theorem dX5_copyFrom_37 : decode cX5_copyFrom 37 = .ok (.putfield 50, 3) := by decide +kernel
theorem dX5_copyFrom_40 : decode cX5_copyFrom 40 = .ok (.aload_n 1, 1) := by decide +kernel
theorem dX5_copyFrom_41 : decode cX5_copyFrom 41 = .ok (.getfield 9, 3) := by decide +kernel
theorem dX5_copyFrom_44 : decode cX5_copyFrom 44 = .ok (.iconst 0, 1) := by decide +kernel
theorem dX5_copyFrom_45 : decode cX5_copyFrom 45 = .ok (.aload_n 0, 1) := by decide +kernel
theorem dX5_copyFrom_46 : decode cX5_copyFrom 46 = .ok (.getfield 9, 3) := by decide +kernel
theorem dX5_copyFrom_49 : decode cX5_copyFrom 49 = .ok (.iconst 0, 1) := by decide +kernel
theorem dX5_copyFrom_50 : decode cX5_copyFrom 50 = .ok (.bipush 25, 2) := by decide +kernel
theorem dX5_copyFrom_52 : decode cX5_copyFrom 52 = .ok (.invokestatic 63, 3) := by decide +kernel
theorem dX5_copyFrom_55 : decode cX5_copyFrom 55 = .ok (.aload_n 1, 1) := by decide +kernel
theorem dX5_copyFrom_56 : decode cX5_copyFrom 56 = .ok (.getfield 15, 3) := by decide +kernel
theorem dX5_copyFrom_59 : decode cX5_copyFrom 59 = .ok (.iconst 0, 1) := by decide +kernel
theorem dX5_copyFrom_60 : decode cX5_copyFrom 60 = .ok (.aload_n 0, 1) := by decide +kernel
theorem dX5_copyFrom_61 : decode cX5_copyFrom 61 = .ok (.getfield 15, 3) := by decide +kernel
theorem dX5_copyFrom_64 : decode cX5_copyFrom 64 = .ok (.iconst 0, 1) := by decide +kernel
theorem dX5_copyFrom_65 : decode cX5_copyFrom 65 = .ok (.bipush 25, 2) := by decide +kernel
theorem dX5_copyFrom_67 : decode cX5_copyFrom 67 = .ok (.invokestatic 63, 3) := by decide +kernel
theorem dX5_copyFrom_70 : decode cX5_copyFrom 70 = .ok (.aload_n 1, 1) := by decide +kernel
theorem dX5_copyFrom_71 : decode cX5_copyFrom 71 = .ok (.getfield 18, 3) := by decide +kernel
theorem dX5_copyFrom_74 : decode cX5_copyFrom 74 = .ok (.iconst 0, 1) := by decide +kernel
theorem dX5_copyFrom_75 : decode cX5_copyFrom 75 = .ok (.aload_n 0, 1) := by decide +kernel
theorem dX5_copyFrom_76 : decode cX5_copyFrom 76 = .ok (.getfield 18, 3) := by decide +kernel
theorem dX5_copyFrom_79 : decode cX5_copyFrom 79 = .ok (.iconst 0, 1) := by decide +kernel
theorem dX5_copyFrom_80 : decode cX5_copyFrom 80 = .ok (.bipush 25, 2) := by decide +kernel
theorem dX5_copyFrom_82 : decode cX5_copyFrom 82 = .ok (.invokestatic 63, 3) := by decide +kernel
theorem dX5_copyFrom_85 : decode cX5_copyFrom 85 = .ok (.aload_n 1, 1) := by decide +kernel
theorem dX5_copyFrom_86 : decode cX5_copyFrom 86 = .ok (.getfield 21, 3) := by decide +kernel
theorem dX5_copyFrom_89 : decode cX5_copyFrom 89 = .ok (.iconst 0, 1) := by decide +kernel
theorem dX5_copyFrom_90 : decode cX5_copyFrom 90 = .ok (.aload_n 0, 1) := by decide +kernel
theorem dX5_copyFrom_91 : decode cX5_copyFrom 91 = .ok (.getfield 21, 3) := by decide +kernel
theorem dX5_copyFrom_94 : decode cX5_copyFrom 94 = .ok (.iconst 0, 1) := by decide +kernel
theorem dX5_copyFrom_95 : decode cX5_copyFrom 95 = .ok (.bipush 6, 2) := by decide +kernel
theorem dX5_copyFrom_97 : decode cX5_copyFrom 97 = .ok (.invokestatic 63, 3) := by decide +kernel
theorem dX5_copyFrom_100 : decode cX5_copyFrom 100 = .ok (.aload_n 1, 1) := by decide +kernel
theorem dX5_copyFrom_101 : decode cX5_copyFrom 101 = .ok (.getfield 25, 3) := by decide +kernel
theorem dX5_copyFrom_104 : decode cX5_copyFrom 104 = .ok (.iconst 0, 1) := by decide +kernel
theorem dX5_copyFrom_105 : decode cX5_copyFrom 105 = .ok (.aload_n 0, 1) := by decide +kernel
theorem dX5_copyFrom_106 : decode cX5_copyFrom 106 = .ok (.getfield 25, 3) := by decide +kernel
theorem dX5_copyFrom_109 : decode cX5_copyFrom 109 = .ok (.iconst 0, 1) := by decide +kernel
theorem dX5_copyFrom_110 : decode cX5_copyFrom 110 = .ok (.bipush 6, 2) := by decide +kernel
theorem dX5_copyFrom_112 : decode cX5_copyFrom 112 = .ok (.invokestatic 63, 3) := by decide +kernel
theorem dX5_copyFrom_115 : decode cX5_copyFrom 115 = .ok (.aload_n 1, 1) := by decide +kernel
theorem dX5_copyFrom_116 : decode cX5_copyFrom 116 = .ok (.getfield 28, 3) := by decide +kernel
theorem dX5_copyFrom_119 : decode cX5_copyFrom 119 = .ok (.iconst 0, 1) := by decide +kernel
theorem dX5_copyFrom_120 : decode cX5_copyFrom 120 = .ok (.aload_n 0, 1) := by decide +kernel
theorem dX5_copyFrom_121 : decode cX5_copyFrom 121 = .ok (.getfield 28, 3) := by decide +kernel
theorem dX5_copyFrom_124 : decode cX5_copyFrom 124 = .ok (.iconst 0, 1) := by decide +kernel
theorem dX5_copyFrom_125 : decode cX5_copyFrom 125 = .ok (.bipush 54, 2) := by decide +kernel
theorem dX5_copyFrom_127 : decode cX5_copyFrom 127 = .ok (.invokestatic 63, 3) := by decide +kernel
theorem dX5_copyFrom_130 : decode cX5_copyFrom 130 = .ok (.aload_n 1, 1) := by decide +kernel
theorem dX5_copyFrom_131 : decode cX5_copyFrom 131 = .ok (.getfield 31, 3) := by decide +kernel
theorem dX5_copyFrom_134 : decode cX5_copyFrom 134 = .ok (.iconst 0, 1) := by decide +kernel
theorem dX5_copyFrom_135 : decode cX5_copyFrom 135 = .ok (.aload_n 0, 1) := by decide +kernel
theorem dX5_copyFrom_136 : decode cX5_copyFrom 136 = .ok (.getfield 31, 3) := by decide +kernel
theorem dX5_copyFrom_139 : decode cX5_copyFrom 139 = .ok (.iconst 0, 1) := by decide +kernel
theorem dX5_copyFrom_140 : decode cX5_copyFrom 140 = .ok (.sipush 200, 3) := by decide +kernel
theorem dX5_copyFrom_143 : decode cX5_copyFrom 143 = .ok (.invokestatic 63, 3) := by decide +kernel
theorem dX5_copyFrom_146 : decode cX5_copyFrom 146 = .ok (.return_, 1) := by decide +kernel
theorem dX5_hasCell_0 : decode cX5_hasCell 0 = .ok (.iload_n 1, 1) := by decide +kernel
theorem dX5_hasCell_1 : decode cX5_hasCell 1 = .ok (.ifCond .lt 15, 3) := by decide +kernel
theorem dX5_hasCell_4 : decode cX5_hasCell 4 = .ok (.iload_n 1, 1) := by decide +kernel
theorem dX5_hasCell_5 : decode cX5_hasCell 5 = .ok (.aload_n 0, 1) := by decide +kernel
theorem dX5_hasCell_6 : decode cX5_hasCell 6 = .ok (.getfield 44, 3) := by decide +kernel
theorem dX5_hasCell_9 : decode cX5_hasCell 9 = .ok (.if_icmp .ge 7, 3) := by decide +kernel
theorem dX5_hasCell_12 : decode cX5_hasCell 12 = .ok (.iconst 1, 1) := by decide +kernel
theorem dX5_hasCell_13 : decode cX5_hasCell 13 = .ok (.goto 4, 3) := by decide +kernel
theorem dX5_hasCell_16 : decode cX5_hasCell 16 = .ok (.iconst 0, 1) := by decide +kernel
theorem dX5_hasCell_17 : decode cX5_hasCell 17 = .ok (.ireturn, 1) := by decide +kernel
theorem dX5_hasVillage_0 : decode cX5_hasVillage 0 = .ok (.iload_n 1, 1) := by decide +kernel
theorem dX5_hasVillage_1 : decode cX5_hasVillage 1 = .ok (.ifCond .lt 15, 3) := by decide +kernel
theorem dX5_hasVillage_4 : decode cX5_hasVillage 4 = .ok (.iload_n 1, 1) := by decide +kernel
theorem dX5_hasVillage_5 : decode cX5_hasVillage 5 = .ok (.aload_n 0, 1) := by decide +kernel
theorem dX5_hasVillage_6 : decode cX5_hasVillage 6 = .ok (.getfield 47, 3) := by decide +kernel
theorem dX5_hasVillage_9 : decode cX5_hasVillage 9 = .ok (.if_icmp .ge 7, 3) := by decide +kernel
theorem dX5_hasVillage_12 : decode cX5_hasVillage 12 = .ok (.iconst 1, 1) := by decide +kernel
theorem dX5_hasVillage_13 : decode cX5_hasVillage 13 = .ok (.goto 4, 3) := by decide +kernel
theorem dX5_hasVillage_16 : decode cX5_hasVillage 16 = .ok (.iconst 0, 1) := by decide +kernel
theorem dX5_hasVillage_17 : decode cX5_hasVillage 17 = .ok (.ireturn, 1) := by decide +kernel
theorem dX5_hasSky_0 : decode cX5_hasSky 0 = .ok (.aload_n 0, 1) := by decide +kernel
theorem dX5_hasSky_1 : decode cX5_hasSky 1 = .ok (.getfield 50, 3) := by decide +kernel
theorem dX5_hasSky_4 : decode cX5_hasSky 4 = .ok (.iload_n 1, 1) := by decide +kernel
theorem dX5_hasSky_5 : decode cX5_hasSky 5 = .ok (.ishr, 1) := by decide +kernel
theorem dX5_hasSky_6 : decode cX5_hasSky 6 = .ok (.iconst 1, 1) := by decide +kernel
theorem dX5_hasSky_7 : decode cX5_hasSky 7 = .ok (.iand, 1) := by decide +kernel
theorem dX5_hasSky_8 : decode cX5_hasSky 8 = .ok (.iconst 1, 1) := by decide +kernel
theorem dX5_hasSky_9 : decode cX5_hasSky 9 = .ok (.if_icmp .ne 7, 3) := by decide +kernel
theorem dX5_hasSky_12 : decode cX5_hasSky 12 = .ok (.iconst 1, 1) := by decide +kernel
theorem dX5_hasSky_13 : decode cX5_hasSky 13 = .ok (.goto 4, 3) := by decide +kernel
theorem dX5_hasSky_16 : decode cX5_hasSky 16 = .ok (.iconst 0, 1) := by decide +kernel
theorem dX5_hasSky_17 : decode cX5_hasSky 17 = .ok (.ireturn, 1) := by decide +kernel
theorem dX5_hasStrip_0 : decode cX5_hasStrip 0 = .ok (.aload_n 0, 1) := by decide +kernel
theorem dX5_hasStrip_1 : decode cX5_hasStrip 1 = .ok (.iload_n 1, 1) := by decide +kernel
theorem dX5_hasStrip_2 : decode cX5_hasStrip 2 = .ok (.invokevirtual 69, 3) := by decide +kernel
theorem dX5_hasStrip_5 : decode cX5_hasStrip 5 = .ok (.ifCond .eq 20, 3) := by decide +kernel
theorem dX5_hasStrip_8 : decode cX5_hasStrip 8 = .ok (.iload_n 2, 1) := by decide +kernel
theorem dX5_hasStrip_9 : decode cX5_hasStrip 9 = .ok (.ifCond .lt 16, 3) := by decide +kernel
theorem dX5_hasStrip_12 : decode cX5_hasStrip 12 = .ok (.iload_n 2, 1) := by decide +kernel
theorem dX5_hasStrip_13 : decode cX5_hasStrip 13 = .ok (.aload_n 0, 1) := by decide +kernel
theorem dX5_hasStrip_14 : decode cX5_hasStrip 14 = .ok (.iload_n 1, 1) := by decide +kernel
theorem dX5_hasStrip_15 : decode cX5_hasStrip 15 = .ok (.invokevirtual 73, 3) := by decide +kernel
theorem dX5_hasStrip_18 : decode cX5_hasStrip 18 = .ok (.if_icmp .ge 7, 3) := by decide +kernel
theorem dX5_hasStrip_21 : decode cX5_hasStrip 21 = .ok (.iconst 1, 1) := by decide +kernel
theorem dX5_hasStrip_22 : decode cX5_hasStrip 22 = .ok (.goto 4, 3) := by decide +kernel
theorem dX5_hasStrip_25 : decode cX5_hasStrip 25 = .ok (.iconst 0, 1) := by decide +kernel
theorem dX5_hasStrip_26 : decode cX5_hasStrip 26 = .ok (.ireturn, 1) := by decide +kernel
theorem dX5_hasSet_0 : decode cX5_hasSet 0 = .ok (.iload_n 1, 1) := by decide +kernel
theorem dX5_hasSet_1 : decode cX5_hasSet 1 = .ok (.ifCond .lt 17, 3) := by decide +kernel
theorem dX5_hasSet_4 : decode cX5_hasSet 4 = .ok (.iload_n 1, 1) := by decide +kernel
theorem dX5_hasSet_5 : decode cX5_hasSet 5 = .ok (.iconst 1, 1) := by decide +kernel
theorem dX5_hasSet_6 : decode cX5_hasSet 6 = .ok (.aload_n 0, 1) := by decide +kernel
theorem dX5_hasSet_7 : decode cX5_hasSet 7 = .ok (.getfield 47, 3) := by decide +kernel
theorem dX5_hasSet_10 : decode cX5_hasSet 10 = .ok (.ishl, 1) := by decide +kernel
theorem dX5_hasSet_11 : decode cX5_hasSet 11 = .ok (.if_icmp .ge 7, 3) := by decide +kernel
theorem dX5_hasSet_14 : decode cX5_hasSet 14 = .ok (.iconst 1, 1) := by decide +kernel
theorem dX5_hasSet_15 : decode cX5_hasSet 15 = .ok (.goto 4, 3) := by decide +kernel
theorem dX5_hasSet_18 : decode cX5_hasSet 18 = .ok (.iconst 0, 1) := by decide +kernel
theorem dX5_hasSet_19 : decode cX5_hasSet 19 = .ok (.ireturn, 1) := by decide +kernel
theorem dX5_stripAt_0 : decode cX5_stripAt 0 = .ok (.aload_n 0, 1) := by decide +kernel
theorem dX5_stripAt_1 : decode cX5_stripAt 1 = .ok (.getfield 31, 3) := by decide +kernel
theorem dX5_stripAt_4 : decode cX5_stripAt 4 = .ok (.iload_n 1, 1) := by decide +kernel
theorem dX5_stripAt_5 : decode cX5_stripAt 5 = .ok (.bipush 25, 2) := by decide +kernel
theorem dX5_stripAt_7 : decode cX5_stripAt 7 = .ok (.imul, 1) := by decide +kernel
theorem dX5_stripAt_8 : decode cX5_stripAt 8 = .ok (.iload_n 2, 1) := by decide +kernel
theorem dX5_stripAt_9 : decode cX5_stripAt 9 = .ok (.iadd, 1) := by decide +kernel
theorem dX5_stripAt_10 : decode cX5_stripAt 10 = .ok (.iaload, 1) := by decide +kernel
theorem dX5_stripAt_11 : decode cX5_stripAt 11 = .ok (.ireturn, 1) := by decide +kernel
theorem dX5_stripsOf_0 : decode cX5_stripsOf 0 = .ok (.aload_n 0, 1) := by decide +kernel
theorem dX5_stripsOf_1 : decode cX5_stripsOf 1 = .ok (.aload_n 0, 1) := by decide +kernel
theorem dX5_stripsOf_2 : decode cX5_stripsOf 2 = .ok (.getfield 25, 3) := by decide +kernel
theorem dX5_stripsOf_5 : decode cX5_stripsOf 5 = .ok (.iload_n 1, 1) := by decide +kernel
theorem dX5_stripsOf_6 : decode cX5_stripsOf 6 = .ok (.iaload, 1) := by decide +kernel
theorem dX5_stripsOf_7 : decode cX5_stripsOf 7 = .ok (.invokevirtual 77, 3) := by decide +kernel
theorem dX5_stripsOf_10 : decode cX5_stripsOf 10 = .ok (.ireturn, 1) := by decide +kernel
theorem dX5_stripsFrom_0 : decode cX5_stripsFrom 0 = .ok (.aload_n 0, 1) := by decide +kernel
theorem dX5_stripsFrom_1 : decode cX5_stripsFrom 1 = .ok (.getfield 44, 3) := by decide +kernel
theorem dX5_stripsFrom_4 : decode cX5_stripsFrom 4 = .ok (.ifCond .ne 5, 3) := by decide +kernel
theorem dX5_stripsFrom_7 : decode cX5_stripsFrom 7 = .ok (.iconst 0, 1) := by decide +kernel
theorem dX5_stripsFrom_8 : decode cX5_stripsFrom 8 = .ok (.ireturn, 1) := by decide +kernel
theorem dX5_stripsFrom_9 : decode cX5_stripsFrom 9 = .ok (.iload_n 1, 1) := by decide +kernel
theorem dX5_stripsFrom_10 : decode cX5_stripsFrom 10 = .ok (.tableswitch 52 0 6 #[42, 52, 47, 52, 42, 52, 47], 42) := by decide +kernel
theorem dX5_stripsFrom_52 : decode cX5_stripsFrom 52 = .ok (.aload_n 0, 1) := by decide +kernel
theorem dX5_stripsFrom_53 : decode cX5_stripsFrom 53 = .ok (.getfield 37, 3) := by decide +kernel
theorem dX5_stripsFrom_56 : decode cX5_stripsFrom 56 = .ok (.ireturn, 1) := by decide +kernel
theorem dX5_stripsFrom_57 : decode cX5_stripsFrom 57 = .ok (.aload_n 0, 1) := by decide +kernel
theorem dX5_stripsFrom_58 : decode cX5_stripsFrom 58 = .ok (.getfield 41, 3) := by decide +kernel
theorem dX5_stripsFrom_61 : decode cX5_stripsFrom 61 = .ok (.ireturn, 1) := by decide +kernel
theorem dX5_stripsFrom_62 : decode cX5_stripsFrom 62 = .ok (.aload_n 0, 1) := by decide +kernel
theorem dX5_stripsFrom_63 : decode cX5_stripsFrom 63 = .ok (.getfield 37, 3) := by decide +kernel
theorem dX5_stripsFrom_66 : decode cX5_stripsFrom 66 = .ok (.aload_n 0, 1) := by decide +kernel
theorem dX5_stripsFrom_67 : decode cX5_stripsFrom 67 = .ok (.getfield 41, 3) := by decide +kernel
theorem dX5_stripsFrom_70 : decode cX5_stripsFrom 70 = .ok (.iadd, 1) := by decide +kernel
theorem dX5_stripsFrom_71 : decode cX5_stripsFrom 71 = .ok (.iconst 1, 1) := by decide +kernel
theorem dX5_stripsFrom_72 : decode cX5_stripsFrom 72 = .ok (.isub, 1) := by decide +kernel
theorem dX5_stripsFrom_73 : decode cX5_stripsFrom 73 = .ok (.ireturn, 1) := by decide +kernel
theorem dX5_villageNamed_0 : decode cX5_villageNamed 0 = .ok (.iconst 0, 1) := by decide +kernel
theorem dX5_villageNamed_1 : decode cX5_villageNamed 1 = .ok (.istore_n 3, 1) := by decide +kernel
theorem dX5_villageNamed_2 : decode cX5_villageNamed 2 = .ok (.iload_n 3, 1) := by decide +kernel
theorem dX5_villageNamed_3 : decode cX5_villageNamed 3 = .ok (.aload_n 0, 1) := by decide +kernel
theorem dX5_villageNamed_4 : decode cX5_villageNamed 4 = .ok (.getfield 47, 3) := by decide +kernel
theorem dX5_villageNamed_7 : decode cX5_villageNamed 7 = .ok (.if_icmp .ge 22, 3) := by decide +kernel
theorem dX5_villageNamed_10 : decode cX5_villageNamed 10 = .ok (.aload_n 0, 1) := by decide +kernel
theorem dX5_villageNamed_11 : decode cX5_villageNamed 11 = .ok (.getfield 21, 3) := by decide +kernel
theorem dX5_villageNamed_14 : decode cX5_villageNamed 14 = .ok (.iload_n 3, 1) := by decide +kernel
theorem dX5_villageNamed_15 : decode cX5_villageNamed 15 = .ok (.laload, 1) := by decide +kernel
theorem dX5_villageNamed_16 : decode cX5_villageNamed 16 = .ok (.lload_n 1, 1) := by decide +kernel
theorem dX5_villageNamed_17 : decode cX5_villageNamed 17 = .ok (.lcmp, 1) := by decide +kernel
theorem dX5_villageNamed_18 : decode cX5_villageNamed 18 = .ok (.ifCond .ne 5, 3) := by decide +kernel
theorem dX5_villageNamed_21 : decode cX5_villageNamed 21 = .ok (.iload_n 3, 1) := by decide +kernel
theorem dX5_villageNamed_22 : decode cX5_villageNamed 22 = .ok (.ireturn, 1) := by decide +kernel
theorem dX5_villageNamed_23 : decode cX5_villageNamed 23 = .ok (.iinc 3 1, 3) := by decide +kernel
theorem dX5_villageNamed_26 : decode cX5_villageNamed 26 = .ok (.goto (-24), 3) := by decide +kernel
theorem dX5_villageNamed_29 : decode cX5_villageNamed 29 = .ok (.iconst (-1), 1) := by decide +kernel
theorem dX5_villageNamed_30 : decode cX5_villageNamed 30 = .ok (.ireturn, 1) := by decide +kernel
theorem dX5_stripsPromised_0 : decode cX5_stripsPromised 0 = .ok (.iconst 0, 1) := by decide +kernel
theorem dX5_stripsPromised_1 : decode cX5_stripsPromised 1 = .ok (.istore_n 2, 1) := by decide +kernel
theorem dX5_stripsPromised_2 : decode cX5_stripsPromised 2 = .ok (.iconst 0, 1) := by decide +kernel
theorem dX5_stripsPromised_3 : decode cX5_stripsPromised 3 = .ok (.istore_n 3, 1) := by decide +kernel
theorem dX5_stripsPromised_4 : decode cX5_stripsPromised 4 = .ok (.iload_n 3, 1) := by decide +kernel
theorem dX5_stripsPromised_5 : decode cX5_stripsPromised 5 = .ok (.aload_n 0, 1) := by decide +kernel
theorem dX5_stripsPromised_6 : decode cX5_stripsPromised 6 = .ok (.getfield 47, 3) := by decide +kernel
theorem dX5_stripsPromised_9 : decode cX5_stripsPromised 9 = .ok (.if_icmp .ge 34, 3) := by decide +kernel
theorem dX5_stripsPromised_12 : decode cX5_stripsPromised 12 = .ok (.iload_n 2, 1) := by decide +kernel
theorem dX5_stripsPromised_13 : decode cX5_stripsPromised 13 = .ok (.iload_n 1, 1) := by decide +kernel
theorem dX5_stripsPromised_14 : decode cX5_stripsPromised 14 = .ok (.aload_n 0, 1) := by decide +kernel
theorem dX5_stripsPromised_15 : decode cX5_stripsPromised 15 = .ok (.getfield 50, 3) := by decide +kernel
theorem dX5_stripsPromised_18 : decode cX5_stripsPromised 18 = .ok (.iand, 1) := by decide +kernel
theorem dX5_stripsPromised_19 : decode cX5_stripsPromised 19 = .ok (.iconst 1, 1) := by decide +kernel
theorem dX5_stripsPromised_20 : decode cX5_stripsPromised 20 = .ok (.iload_n 3, 1) := by decide +kernel
theorem dX5_stripsPromised_21 : decode cX5_stripsPromised 21 = .ok (.ishl, 1) := by decide +kernel
theorem dX5_stripsPromised_22 : decode cX5_stripsPromised 22 = .ok (.iand, 1) := by decide +kernel
theorem dX5_stripsPromised_23 : decode cX5_stripsPromised 23 = .ok (.ifCond .eq 11, 3) := by decide +kernel
theorem dX5_stripsPromised_26 : decode cX5_stripsPromised 26 = .ok (.aload_n 0, 1) := by decide +kernel
theorem dX5_stripsPromised_27 : decode cX5_stripsPromised 27 = .ok (.iload_n 3, 1) := by decide +kernel
theorem dX5_stripsPromised_28 : decode cX5_stripsPromised 28 = .ok (.invokevirtual 73, 3) := by decide +kernel
theorem dX5_stripsPromised_31 : decode cX5_stripsPromised 31 = .ok (.goto 4, 3) := by decide +kernel
theorem dX5_stripsPromised_34 : decode cX5_stripsPromised 34 = .ok (.iconst 0, 1) := by decide +kernel
theorem dX5_stripsPromised_35 : decode cX5_stripsPromised 35 = .ok (.iadd, 1) := by decide +kernel
theorem dX5_stripsPromised_36 : decode cX5_stripsPromised 36 = .ok (.istore_n 2, 1) := by decide +kernel
theorem dX5_stripsPromised_37 : decode cX5_stripsPromised 37 = .ok (.iinc 3 1, 3) := by decide +kernel
theorem dX5_stripsPromised_40 : decode cX5_stripsPromised 40 = .ok (.goto (-36), 3) := by decide +kernel
theorem dX5_stripsPromised_43 : decode cX5_stripsPromised 43 = .ok (.iload_n 2, 1) := by decide +kernel
theorem dX5_stripsPromised_44 : decode cX5_stripsPromised 44 = .ok (.ireturn, 1) := by decide +kernel
theorem dX5_lookFrom_0 : decode cX5_lookFrom 0 = .ok (.aload_n 0, 1) := by decide +kernel
theorem dX5_lookFrom_1 : decode cX5_lookFrom 1 = .ok (.iload_n 1, 1) := by decide +kernel
theorem dX5_lookFrom_2 : decode cX5_lookFrom 2 = .ok (.invokevirtual 77, 3) := by decide +kernel
theorem dX5_lookFrom_5 : decode cX5_lookFrom 5 = .ok (.istore 5, 2) := by decide +kernel
theorem dX5_lookFrom_7 : decode cX5_lookFrom 7 = .ok (.iconst 0, 1) := by decide +kernel
theorem dX5_lookFrom_8 : decode cX5_lookFrom 8 = .ok (.istore 6, 2) := by decide +kernel
theorem dX5_lookFrom_10 : decode cX5_lookFrom 10 = .ok (.iload 6, 2) := by decide +kernel
theorem dX5_lookFrom_12 : decode cX5_lookFrom 12 = .ok (.iload 5, 2) := by decide +kernel
theorem dX5_lookFrom_14 : decode cX5_lookFrom 14 = .ok (.if_icmp .ge 17, 3) := by decide +kernel
theorem dX5_lookFrom_17 : decode cX5_lookFrom 17 = .ok (.aload_n 3, 1) := by decide +kernel
theorem dX5_lookFrom_18 : decode cX5_lookFrom 18 = .ok (.iload 4, 2) := by decide +kernel
theorem dX5_lookFrom_20 : decode cX5_lookFrom 20 = .ok (.iload 6, 2) := by decide +kernel
theorem dX5_lookFrom_22 : decode cX5_lookFrom 22 = .ok (.iadd, 1) := by decide +kernel
theorem dX5_lookFrom_23 : decode cX5_lookFrom 23 = .ok (.iconst 0, 1) := by decide +kernel
theorem dX5_lookFrom_24 : decode cX5_lookFrom 24 = .ok (.iastore, 1) := by decide +kernel
theorem dX5_lookFrom_25 : decode cX5_lookFrom 25 = .ok (.iinc 6 1, 3) := by decide +kernel
theorem dX5_lookFrom_28 : decode cX5_lookFrom 28 = .ok (.goto (-18), 3) := by decide +kernel
theorem dX5_lookFrom_31 : decode cX5_lookFrom 31 = .ok (.iconst 0, 1) := by decide +kernel
theorem dX5_lookFrom_32 : decode cX5_lookFrom 32 = .ok (.istore 6, 2) := by decide +kernel
theorem dX5_lookFrom_34 : decode cX5_lookFrom 34 = .ok (.iload 6, 2) := by decide +kernel
theorem dX5_lookFrom_36 : decode cX5_lookFrom 36 = .ok (.aload_n 0, 1) := by decide +kernel
theorem dX5_lookFrom_37 : decode cX5_lookFrom 37 = .ok (.getfield 44, 3) := by decide +kernel
theorem dX5_lookFrom_40 : decode cX5_lookFrom 40 = .ok (.if_icmp .ge 36, 3) := by decide +kernel
theorem dX5_lookFrom_43 : decode cX5_lookFrom 43 = .ok (.iload 4, 2) := by decide +kernel
theorem dX5_lookFrom_45 : decode cX5_lookFrom 45 = .ok (.aload_n 0, 1) := by decide +kernel
theorem dX5_lookFrom_46 : decode cX5_lookFrom 46 = .ok (.iload_n 1, 1) := by decide +kernel
theorem dX5_lookFrom_47 : decode cX5_lookFrom 47 = .ok (.iload 6, 2) := by decide +kernel
theorem dX5_lookFrom_49 : decode cX5_lookFrom 49 = .ok (.invokevirtual 80, 3) := by decide +kernel
theorem dX5_lookFrom_52 : decode cX5_lookFrom 52 = .ok (.iadd, 1) := by decide +kernel
theorem dX5_lookFrom_53 : decode cX5_lookFrom 53 = .ok (.istore 7, 2) := by decide +kernel
theorem dX5_lookFrom_55 : decode cX5_lookFrom 55 = .ok (.aload_n 3, 1) := by decide +kernel
theorem dX5_lookFrom_56 : decode cX5_lookFrom 56 = .ok (.iload 7, 2) := by decide +kernel
theorem dX5_lookFrom_58 : decode cX5_lookFrom 58 = .ok (.aload_n 3, 1) := by decide +kernel
theorem dX5_lookFrom_59 : decode cX5_lookFrom 59 = .ok (.iload 7, 2) := by decide +kernel
theorem dX5_lookFrom_61 : decode cX5_lookFrom 61 = .ok (.iaload, 1) := by decide +kernel
theorem dX5_lookFrom_62 : decode cX5_lookFrom 62 = .ok (.aload_n 2, 1) := by decide +kernel
theorem dX5_lookFrom_63 : decode cX5_lookFrom 63 = .ok (.iload 6, 2) := by decide +kernel
theorem dX5_lookFrom_65 : decode cX5_lookFrom 65 = .ok (.iaload, 1) := by decide +kernel
theorem dX5_lookFrom_66 : decode cX5_lookFrom 66 = .ok (.invokestatic 84, 3) := by decide +kernel
theorem dX5_lookFrom_69 : decode cX5_lookFrom 69 = .ok (.iastore, 1) := by decide +kernel
theorem dX5_lookFrom_70 : decode cX5_lookFrom 70 = .ok (.iinc 6 1, 3) := by decide +kernel
theorem dX5_lookFrom_73 : decode cX5_lookFrom 73 = .ok (.goto (-39), 3) := by decide +kernel
theorem dX5_lookFrom_76 : decode cX5_lookFrom 76 = .ok (.return_, 1) := by decide +kernel
theorem dX5_lookFromAll_0 : decode cX5_lookFromAll 0 = .ok (.iconst 0, 1) := by decide +kernel
theorem dX5_lookFromAll_1 : decode cX5_lookFromAll 1 = .ok (.istore_n 3, 1) := by decide +kernel
theorem dX5_lookFromAll_2 : decode cX5_lookFromAll 2 = .ok (.iload_n 3, 1) := by decide +kernel
theorem dX5_lookFromAll_3 : decode cX5_lookFromAll 3 = .ok (.aload_n 0, 1) := by decide +kernel
theorem dX5_lookFromAll_4 : decode cX5_lookFromAll 4 = .ok (.getfield 47, 3) := by decide +kernel
theorem dX5_lookFromAll_7 : decode cX5_lookFromAll 7 = .ok (.if_icmp .ge 25, 3) := by decide +kernel
theorem dX5_lookFromAll_10 : decode cX5_lookFromAll 10 = .ok (.aload_n 0, 1) := by decide +kernel
theorem dX5_lookFromAll_11 : decode cX5_lookFromAll 11 = .ok (.aload_n 0, 1) := by decide +kernel
theorem dX5_lookFromAll_12 : decode cX5_lookFromAll 12 = .ok (.getfield 25, 3) := by decide +kernel
theorem dX5_lookFromAll_15 : decode cX5_lookFromAll 15 = .ok (.iload_n 3, 1) := by decide +kernel
theorem dX5_lookFromAll_16 : decode cX5_lookFromAll 16 = .ok (.iaload, 1) := by decide +kernel
theorem dX5_lookFromAll_17 : decode cX5_lookFromAll 17 = .ok (.aload_n 1, 1) := by decide +kernel
theorem dX5_lookFromAll_18 : decode cX5_lookFromAll 18 = .ok (.aload_n 2, 1) := by decide +kernel
theorem dX5_lookFromAll_19 : decode cX5_lookFromAll 19 = .ok (.iload_n 3, 1) := by decide +kernel
theorem dX5_lookFromAll_20 : decode cX5_lookFromAll 20 = .ok (.bipush 9, 2) := by decide +kernel
theorem dX5_lookFromAll_22 : decode cX5_lookFromAll 22 = .ok (.imul, 1) := by decide +kernel
theorem dX5_lookFromAll_23 : decode cX5_lookFromAll 23 = .ok (.invokevirtual 89, 3) := by decide +kernel
theorem dX5_lookFromAll_26 : decode cX5_lookFromAll 26 = .ok (.iinc 3 1, 3) := by decide +kernel
theorem dX5_lookFromAll_29 : decode cX5_lookFromAll 29 = .ok (.goto (-27), 3) := by decide +kernel
theorem dX5_lookFromAll_32 : decode cX5_lookFromAll 32 = .ok (.return_, 1) := by decide +kernel
theorem dX5_sightOf_0 : decode cX5_sightOf 0 = .ok (.iconst 0, 1) := by decide +kernel
theorem dX5_sightOf_1 : decode cX5_sightOf 1 = .ok (.istore 4, 2) := by decide +kernel
theorem dX5_sightOf_3 : decode cX5_sightOf 3 = .ok (.iconst 0, 1) := by decide +kernel
theorem dX5_sightOf_4 : decode cX5_sightOf 4 = .ok (.istore 5, 2) := by decide +kernel
theorem dX5_sightOf_6 : decode cX5_sightOf 6 = .ok (.iload 5, 2) := by decide +kernel
theorem dX5_sightOf_8 : decode cX5_sightOf 8 = .ok (.aload_n 0, 1) := by decide +kernel
theorem dX5_sightOf_9 : decode cX5_sightOf 9 = .ok (.getfield 44, 3) := by decide +kernel
theorem dX5_sightOf_12 : decode cX5_sightOf 12 = .ok (.if_icmp .ge 36, 3) := by decide +kernel
theorem dX5_sightOf_15 : decode cX5_sightOf 15 = .ok (.aload_n 0, 1) := by decide +kernel
theorem dX5_sightOf_16 : decode cX5_sightOf 16 = .ok (.aload_n 0, 1) := by decide +kernel
theorem dX5_sightOf_17 : decode cX5_sightOf 17 = .ok (.getfield 25, 3) := by decide +kernel
theorem dX5_sightOf_20 : decode cX5_sightOf 20 = .ok (.iload_n 1, 1) := by decide +kernel
theorem dX5_sightOf_21 : decode cX5_sightOf 21 = .ok (.iaload, 1) := by decide +kernel
theorem dX5_sightOf_22 : decode cX5_sightOf 22 = .ok (.iload 5, 2) := by decide +kernel
theorem dX5_sightOf_24 : decode cX5_sightOf 24 = .ok (.invokevirtual 80, 3) := by decide +kernel
theorem dX5_sightOf_27 : decode cX5_sightOf 27 = .ok (.iload_n 2, 1) := by decide +kernel
theorem dX5_sightOf_28 : decode cX5_sightOf 28 = .ok (.if_icmp .ne 14, 3) := by decide +kernel
theorem dX5_sightOf_31 : decode cX5_sightOf 31 = .ok (.iload 4, 2) := by decide +kernel
theorem dX5_sightOf_33 : decode cX5_sightOf 33 = .ok (.aload_n 3, 1) := by decide +kernel
theorem dX5_sightOf_34 : decode cX5_sightOf 34 = .ok (.iload 5, 2) := by decide +kernel
theorem dX5_sightOf_36 : decode cX5_sightOf 36 = .ok (.iaload, 1) := by decide +kernel
theorem dX5_sightOf_37 : decode cX5_sightOf 37 = .ok (.invokestatic 84, 3) := by decide +kernel
theorem dX5_sightOf_40 : decode cX5_sightOf 40 = .ok (.istore 4, 2) := by decide +kernel
theorem dX5_sightOf_42 : decode cX5_sightOf 42 = .ok (.iinc 5 1, 3) := by decide +kernel
theorem dX5_sightOf_45 : decode cX5_sightOf 45 = .ok (.goto (-39), 3) := by decide +kernel
theorem dX5_sightOf_48 : decode cX5_sightOf 48 = .ok (.iload 4, 2) := by decide +kernel
theorem dX5_sightOf_50 : decode cX5_sightOf 50 = .ok (.ireturn, 1) := by decide +kernel
theorem dX5_lowestSight_0 : decode cX5_lowestSight 0 = .ok (.bipush 99, 2) := by decide +kernel
theorem dX5_lowestSight_2 : decode cX5_lowestSight 2 = .ok (.istore_n 2, 1) := by decide +kernel
theorem dX5_lowestSight_3 : decode cX5_lowestSight 3 = .ok (.iconst 0, 1) := by decide +kernel
theorem dX5_lowestSight_4 : decode cX5_lowestSight 4 = .ok (.istore_n 3, 1) := by decide +kernel
theorem dX5_lowestSight_5 : decode cX5_lowestSight 5 = .ok (.iload_n 3, 1) := by decide +kernel
theorem dX5_lowestSight_6 : decode cX5_lowestSight 6 = .ok (.aload_n 0, 1) := by decide +kernel
theorem dX5_lowestSight_7 : decode cX5_lowestSight 7 = .ok (.getfield 47, 3) := by decide +kernel
theorem dX5_lowestSight_10 : decode cX5_lowestSight 10 = .ok (.if_icmp .ge 56, 3) := by decide +kernel
theorem dX5_lowestSight_13 : decode cX5_lowestSight 13 = .ok (.aload_n 0, 1) := by decide +kernel
theorem dX5_lowestSight_14 : decode cX5_lowestSight 14 = .ok (.aload_n 0, 1) := by decide +kernel
theorem dX5_lowestSight_15 : decode cX5_lowestSight 15 = .ok (.getfield 25, 3) := by decide +kernel
theorem dX5_lowestSight_18 : decode cX5_lowestSight 18 = .ok (.iload_n 3, 1) := by decide +kernel
theorem dX5_lowestSight_19 : decode cX5_lowestSight 19 = .ok (.iaload, 1) := by decide +kernel
theorem dX5_lowestSight_20 : decode cX5_lowestSight 20 = .ok (.aload_n 1, 1) := by decide +kernel
theorem dX5_lowestSight_21 : decode cX5_lowestSight 21 = .ok (.aload_n 0, 1) := by decide +kernel
theorem dX5_lowestSight_22 : decode cX5_lowestSight 22 = .ok (.getfield 34, 3) := by decide +kernel
theorem dX5_lowestSight_25 : decode cX5_lowestSight 25 = .ok (.iconst 0, 1) := by decide +kernel
theorem dX5_lowestSight_26 : decode cX5_lowestSight 26 = .ok (.invokevirtual 89, 3) := by decide +kernel
theorem dX5_lowestSight_29 : decode cX5_lowestSight 29 = .ok (.iconst 0, 1) := by decide +kernel
theorem dX5_lowestSight_30 : decode cX5_lowestSight 30 = .ok (.istore 4, 2) := by decide +kernel
theorem dX5_lowestSight_32 : decode cX5_lowestSight 32 = .ok (.iload 4, 2) := by decide +kernel
theorem dX5_lowestSight_34 : decode cX5_lowestSight 34 = .ok (.aload_n 0, 1) := by decide +kernel
theorem dX5_lowestSight_35 : decode cX5_lowestSight 35 = .ok (.iload_n 3, 1) := by decide +kernel
theorem dX5_lowestSight_36 : decode cX5_lowestSight 36 = .ok (.invokevirtual 73, 3) := by decide +kernel
theorem dX5_lowestSight_39 : decode cX5_lowestSight 39 = .ok (.if_icmp .ge 21, 3) := by decide +kernel
theorem dX5_lowestSight_42 : decode cX5_lowestSight 42 = .ok (.iload_n 2, 1) := by decide +kernel
theorem dX5_lowestSight_43 : decode cX5_lowestSight 43 = .ok (.aload_n 0, 1) := by decide +kernel
theorem dX5_lowestSight_44 : decode cX5_lowestSight 44 = .ok (.getfield 34, 3) := by decide +kernel
theorem dX5_lowestSight_47 : decode cX5_lowestSight 47 = .ok (.iload 4, 2) := by decide +kernel
theorem dX5_lowestSight_49 : decode cX5_lowestSight 49 = .ok (.iaload, 1) := by decide +kernel
theorem dX5_lowestSight_50 : decode cX5_lowestSight 50 = .ok (.invokestatic 93, 3) := by decide +kernel
theorem dX5_lowestSight_53 : decode cX5_lowestSight 53 = .ok (.istore_n 2, 1) := by decide +kernel
theorem dX5_lowestSight_54 : decode cX5_lowestSight 54 = .ok (.iinc 4 1, 3) := by decide +kernel
theorem dX5_lowestSight_57 : decode cX5_lowestSight 57 = .ok (.goto (-25), 3) := by decide +kernel
theorem dX5_lowestSight_60 : decode cX5_lowestSight 60 = .ok (.iinc 3 1, 3) := by decide +kernel
theorem dX5_lowestSight_63 : decode cX5_lowestSight 63 = .ok (.goto (-58), 3) := by decide +kernel
theorem dX5_lowestSight_66 : decode cX5_lowestSight 66 = .ok (.iload_n 2, 1) := by decide +kernel
theorem dX5_lowestSight_67 : decode cX5_lowestSight 67 = .ok (.ireturn, 1) := by decide +kernel
theorem dX5_firstUnlikeStrip_0 : decode cX5_firstUnlikeStrip 0 = .ok (.aload_n 0, 1) := by decide +kernel
theorem dX5_firstUnlikeStrip_1 : decode cX5_firstUnlikeStrip 1 = .ok (.aload_n 0, 1) := by decide +kernel
theorem dX5_firstUnlikeStrip_2 : decode cX5_firstUnlikeStrip 2 = .ok (.getfield 25, 3) := by decide +kernel
theorem dX5_firstUnlikeStrip_5 : decode cX5_firstUnlikeStrip 5 = .ok (.iload_n 1, 1) := by decide +kernel
theorem dX5_firstUnlikeStrip_6 : decode cX5_firstUnlikeStrip 6 = .ok (.iaload, 1) := by decide +kernel
theorem dX5_firstUnlikeStrip_7 : decode cX5_firstUnlikeStrip 7 = .ok (.aload_n 2, 1) := by decide +kernel
theorem dX5_firstUnlikeStrip_8 : decode cX5_firstUnlikeStrip 8 = .ok (.aload_n 0, 1) := by decide +kernel
theorem dX5_firstUnlikeStrip_9 : decode cX5_firstUnlikeStrip 9 = .ok (.getfield 34, 3) := by decide +kernel
theorem dX5_firstUnlikeStrip_12 : decode cX5_firstUnlikeStrip 12 = .ok (.iconst 0, 1) := by decide +kernel
theorem dX5_firstUnlikeStrip_13 : decode cX5_firstUnlikeStrip 13 = .ok (.invokevirtual 89, 3) := by decide +kernel
theorem dX5_firstUnlikeStrip_16 : decode cX5_firstUnlikeStrip 16 = .ok (.iconst 0, 1) := by decide +kernel
theorem dX5_firstUnlikeStrip_17 : decode cX5_firstUnlikeStrip 17 = .ok (.istore_n 3, 1) := by decide +kernel
theorem dX5_firstUnlikeStrip_18 : decode cX5_firstUnlikeStrip 18 = .ok (.iload_n 3, 1) := by decide +kernel
theorem dX5_firstUnlikeStrip_19 : decode cX5_firstUnlikeStrip 19 = .ok (.aload_n 0, 1) := by decide +kernel
theorem dX5_firstUnlikeStrip_20 : decode cX5_firstUnlikeStrip 20 = .ok (.iload_n 1, 1) := by decide +kernel
theorem dX5_firstUnlikeStrip_21 : decode cX5_firstUnlikeStrip 21 = .ok (.invokevirtual 73, 3) := by decide +kernel
theorem dX5_firstUnlikeStrip_24 : decode cX5_firstUnlikeStrip 24 = .ok (.if_icmp .ge 31, 3) := by decide +kernel
theorem dX5_firstUnlikeStrip_27 : decode cX5_firstUnlikeStrip 27 = .ok (.aload_n 0, 1) := by decide +kernel
theorem dX5_firstUnlikeStrip_28 : decode cX5_firstUnlikeStrip 28 = .ok (.getfield 34, 3) := by decide +kernel
theorem dX5_firstUnlikeStrip_31 : decode cX5_firstUnlikeStrip 31 = .ok (.iload_n 3, 1) := by decide +kernel
theorem dX5_firstUnlikeStrip_32 : decode cX5_firstUnlikeStrip 32 = .ok (.iaload, 1) := by decide +kernel
theorem dX5_firstUnlikeStrip_33 : decode cX5_firstUnlikeStrip 33 = .ok (.aload_n 0, 1) := by decide +kernel
theorem dX5_firstUnlikeStrip_34 : decode cX5_firstUnlikeStrip 34 = .ok (.getfield 28, 3) := by decide +kernel
theorem dX5_firstUnlikeStrip_37 : decode cX5_firstUnlikeStrip 37 = .ok (.iload_n 1, 1) := by decide +kernel
theorem dX5_firstUnlikeStrip_38 : decode cX5_firstUnlikeStrip 38 = .ok (.bipush 9, 2) := by decide +kernel
theorem dX5_firstUnlikeStrip_40 : decode cX5_firstUnlikeStrip 40 = .ok (.imul, 1) := by decide +kernel
theorem dX5_firstUnlikeStrip_41 : decode cX5_firstUnlikeStrip 41 = .ok (.iload_n 3, 1) := by decide +kernel
theorem dX5_firstUnlikeStrip_42 : decode cX5_firstUnlikeStrip 42 = .ok (.iadd, 1) := by decide +kernel
theorem dX5_firstUnlikeStrip_43 : decode cX5_firstUnlikeStrip 43 = .ok (.iaload, 1) := by decide +kernel
theorem dX5_firstUnlikeStrip_44 : decode cX5_firstUnlikeStrip 44 = .ok (.if_icmp .eq 5, 3) := by decide +kernel
theorem dX5_firstUnlikeStrip_47 : decode cX5_firstUnlikeStrip 47 = .ok (.iload_n 3, 1) := by decide +kernel
theorem dX5_firstUnlikeStrip_48 : decode cX5_firstUnlikeStrip 48 = .ok (.ireturn, 1) := by decide +kernel
theorem dX5_firstUnlikeStrip_49 : decode cX5_firstUnlikeStrip 49 = .ok (.iinc 3 1, 3) := by decide +kernel
theorem dX5_firstUnlikeStrip_52 : decode cX5_firstUnlikeStrip 52 = .ok (.goto (-34), 3) := by decide +kernel
theorem dX5_firstUnlikeStrip_55 : decode cX5_firstUnlikeStrip 55 = .ok (.iconst (-1), 1) := by decide +kernel
theorem dX5_firstUnlikeStrip_56 : decode cX5_firstUnlikeStrip 56 = .ok (.ireturn, 1) := by decide +kernel
theorem dX5_firstUnlikeVillage_0 : decode cX5_firstUnlikeVillage 0 = .ok (.iconst 0, 1) := by decide +kernel
theorem dX5_firstUnlikeVillage_1 : decode cX5_firstUnlikeVillage 1 = .ok (.istore_n 2, 1) := by decide +kernel
theorem dX5_firstUnlikeVillage_2 : decode cX5_firstUnlikeVillage 2 = .ok (.iload_n 2, 1) := by decide +kernel
theorem dX5_firstUnlikeVillage_3 : decode cX5_firstUnlikeVillage 3 = .ok (.aload_n 0, 1) := by decide +kernel
theorem dX5_firstUnlikeVillage_4 : decode cX5_firstUnlikeVillage 4 = .ok (.getfield 47, 3) := by decide +kernel
theorem dX5_firstUnlikeVillage_7 : decode cX5_firstUnlikeVillage 7 = .ok (.if_icmp .ge 29, 3) := by decide +kernel
theorem dX5_firstUnlikeVillage_10 : decode cX5_firstUnlikeVillage 10 = .ok (.aload_n 0, 1) := by decide +kernel
theorem dX5_firstUnlikeVillage_11 : decode cX5_firstUnlikeVillage 11 = .ok (.iload_n 2, 1) := by decide +kernel
theorem dX5_firstUnlikeVillage_12 : decode cX5_firstUnlikeVillage 12 = .ok (.invokevirtual 96, 3) := by decide +kernel
theorem dX5_firstUnlikeVillage_15 : decode cX5_firstUnlikeVillage 15 = .ok (.ifCond .eq 15, 3) := by decide +kernel
theorem dX5_firstUnlikeVillage_18 : decode cX5_firstUnlikeVillage 18 = .ok (.aload_n 0, 1) := by decide +kernel
theorem dX5_firstUnlikeVillage_19 : decode cX5_firstUnlikeVillage 19 = .ok (.iload_n 2, 1) := by decide +kernel
theorem dX5_firstUnlikeVillage_20 : decode cX5_firstUnlikeVillage 20 = .ok (.aload_n 1, 1) := by decide +kernel
theorem dX5_firstUnlikeVillage_21 : decode cX5_firstUnlikeVillage 21 = .ok (.invokevirtual 99, 3) := by decide +kernel
theorem dX5_firstUnlikeVillage_24 : decode cX5_firstUnlikeVillage 24 = .ok (.iconst (-1), 1) := by decide +kernel
theorem dX5_firstUnlikeVillage_25 : decode cX5_firstUnlikeVillage 25 = .ok (.if_icmp .eq 5, 3) := by decide +kernel
theorem dX5_firstUnlikeVillage_28 : decode cX5_firstUnlikeVillage 28 = .ok (.iload_n 2, 1) := by decide +kernel
theorem dX5_firstUnlikeVillage_29 : decode cX5_firstUnlikeVillage 29 = .ok (.ireturn, 1) := by decide +kernel
theorem dX5_firstUnlikeVillage_30 : decode cX5_firstUnlikeVillage 30 = .ok (.iinc 2 1, 3) := by decide +kernel
theorem dX5_firstUnlikeVillage_33 : decode cX5_firstUnlikeVillage 33 = .ok (.goto (-31), 3) := by decide +kernel
theorem dX5_firstUnlikeVillage_36 : decode cX5_firstUnlikeVillage 36 = .ok (.iconst (-1), 1) := by decide +kernel
theorem dX5_firstUnlikeVillage_37 : decode cX5_firstUnlikeVillage 37 = .ok (.ireturn, 1) := by decide +kernel
theorem dX5_stoneOf_0 : decode cX5_stoneOf 0 = .ok (.iconst 0, 1) := by decide +kernel
theorem dX5_stoneOf_1 : decode cX5_stoneOf 1 = .ok (.istore_n 2, 1) := by decide +kernel
theorem dX5_stoneOf_2 : decode cX5_stoneOf 2 = .ok (.iconst 0, 1) := by decide +kernel
theorem dX5_stoneOf_3 : decode cX5_stoneOf 3 = .ok (.istore_n 3, 1) := by decide +kernel
theorem dX5_stoneOf_4 : decode cX5_stoneOf 4 = .ok (.iload_n 3, 1) := by decide +kernel
theorem dX5_stoneOf_5 : decode cX5_stoneOf 5 = .ok (.aload_n 0, 1) := by decide +kernel
theorem dX5_stoneOf_6 : decode cX5_stoneOf 6 = .ok (.getfield 44, 3) := by decide +kernel
theorem dX5_stoneOf_9 : decode cX5_stoneOf 9 = .ok (.if_icmp .ge 33, 3) := by decide +kernel
theorem dX5_stoneOf_12 : decode cX5_stoneOf 12 = .ok (.iload_n 2, 1) := by decide +kernel
theorem dX5_stoneOf_13 : decode cX5_stoneOf 13 = .ok (.iconst 0, 1) := by decide +kernel
theorem dX5_stoneOf_14 : decode cX5_stoneOf 14 = .ok (.aload_n 1, 1) := by decide +kernel
theorem dX5_stoneOf_15 : decode cX5_stoneOf 15 = .ok (.iload_n 3, 1) := by decide +kernel
theorem dX5_stoneOf_16 : decode cX5_stoneOf 16 = .ok (.iaload, 1) := by decide +kernel
theorem dX5_stoneOf_17 : decode cX5_stoneOf 17 = .ok (.aload_n 0, 1) := by decide +kernel
theorem dX5_stoneOf_18 : decode cX5_stoneOf 18 = .ok (.getfield 15, 3) := by decide +kernel
theorem dX5_stoneOf_21 : decode cX5_stoneOf 21 = .ok (.iload_n 3, 1) := by decide +kernel
theorem dX5_stoneOf_22 : decode cX5_stoneOf 22 = .ok (.iaload, 1) := by decide +kernel
theorem dX5_stoneOf_23 : decode cX5_stoneOf 23 = .ok (.isub, 1) := by decide +kernel
theorem dX5_stoneOf_24 : decode cX5_stoneOf 24 = .ok (.invokestatic 84, 3) := by decide +kernel
theorem dX5_stoneOf_27 : decode cX5_stoneOf 27 = .ok (.aload_n 0, 1) := by decide +kernel
theorem dX5_stoneOf_28 : decode cX5_stoneOf 28 = .ok (.getfield 18, 3) := by decide +kernel
theorem dX5_stoneOf_31 : decode cX5_stoneOf 31 = .ok (.iload_n 3, 1) := by decide +kernel
theorem dX5_stoneOf_32 : decode cX5_stoneOf 32 = .ok (.iaload, 1) := by decide +kernel
theorem dX5_stoneOf_33 : decode cX5_stoneOf 33 = .ok (.imul, 1) := by decide +kernel
theorem dX5_stoneOf_34 : decode cX5_stoneOf 34 = .ok (.iadd, 1) := by decide +kernel
theorem dX5_stoneOf_35 : decode cX5_stoneOf 35 = .ok (.istore_n 2, 1) := by decide +kernel
theorem dX5_stoneOf_36 : decode cX5_stoneOf 36 = .ok (.iinc 3 1, 3) := by decide +kernel
theorem dX5_stoneOf_39 : decode cX5_stoneOf 39 = .ok (.goto (-35), 3) := by decide +kernel
theorem dX5_stoneOf_42 : decode cX5_stoneOf 42 = .ok (.iload_n 2, 1) := by decide +kernel
theorem dX5_stoneOf_43 : decode cX5_stoneOf 43 = .ok (.ireturn, 1) := by decide +kernel
theorem dX6_init_0 : decode cX6_init 0 = .ok (.aload_n 0, 1) := by decide +kernel
theorem dX6_init_1 : decode cX6_init 1 = .ok (.invokespecial 3, 3) := by decide +kernel
theorem dX6_init_4 : decode cX6_init 4 = .ok (.aload_n 0, 1) := by decide +kernel
theorem dX6_init_5 : decode cX6_init 5 = .ok (.new 9, 3) := by decide +kernel
theorem dX6_init_8 : decode cX6_init 8 = .ok (.dup, 1) := by decide +kernel
theorem dX6_init_9 : decode cX6_init 9 = .ok (.invokespecial 11, 3) := by decide +kernel
theorem dX6_init_12 : decode cX6_init 12 = .ok (.putfield 12, 3) := by decide +kernel
theorem dX6_init_15 : decode cX6_init 15 = .ok (.aload_n 0, 1) := by decide +kernel
theorem dX6_init_16 : decode cX6_init 16 = .ok (.new 18, 3) := by decide +kernel
theorem dX6_init_19 : decode cX6_init 19 = .ok (.dup, 1) := by decide +kernel
theorem dX6_init_20 : decode cX6_init 20 = .ok (.invokespecial 20, 3) := by decide +kernel
theorem dX6_init_23 : decode cX6_init 23 = .ok (.putfield 21, 3) := by decide +kernel
theorem dX6_init_26 : decode cX6_init 26 = .ok (.return_, 1) := by decide +kernel
theorem dX6_readPlain_0 : decode cX6_readPlain 0 = .ok (.aload_n 0, 1) := by decide +kernel
theorem dX6_readPlain_1 : decode cX6_readPlain 1 = .ok (.getfield 21, 3) := by decide +kernel
theorem dX6_readPlain_4 : decode cX6_readPlain 4 = .ok (.aload_n 1, 1) := by decide +kernel
theorem dX6_readPlain_5 : decode cX6_readPlain 5 = .ok (.iload_n 2, 1) := by decide +kernel
theorem dX6_readPlain_6 : decode cX6_readPlain 6 = .ok (.invokevirtual 25, 3) := by decide +kernel
theorem dX6_readPlain_9 : decode cX6_readPlain 9 = .ok (.aload_n 0, 1) := by decide +kernel
theorem dX6_readPlain_10 : decode cX6_readPlain 10 = .ok (.iconst 0, 1) := by decide +kernel
theorem dX6_readPlain_11 : decode cX6_readPlain 11 = .ok (.putfield 29, 3) := by decide +kernel
theorem dX6_readPlain_14 : decode cX6_readPlain 14 = .ok (.aload_n 0, 1) := by decide +kernel
theorem dX6_readPlain_15 : decode cX6_readPlain 15 = .ok (.iconst 0, 1) := by decide +kernel
theorem dX6_readPlain_16 : decode cX6_readPlain 16 = .ok (.putfield 33, 3) := by decide +kernel
theorem dX6_readPlain_19 : decode cX6_readPlain 19 = .ok (.aload_n 0, 1) := by decide +kernel
theorem dX6_readPlain_20 : decode cX6_readPlain 20 = .ok (.iconst 0, 1) := by decide +kernel
theorem dX6_readPlain_21 : decode cX6_readPlain 21 = .ok (.putfield 36, 3) := by decide +kernel
theorem dX6_readPlain_24 : decode cX6_readPlain 24 = .ok (.aload_n 0, 1) := by decide +kernel
theorem dX6_readPlain_25 : decode cX6_readPlain 25 = .ok (.invokevirtual 39, 3) := by decide +kernel
theorem dX6_readPlain_28 : decode cX6_readPlain 28 = .ok (.ifCond .ne 5, 3) := by decide +kernel
theorem dX6_readPlain_31 : decode cX6_readPlain 31 = .ok (.iconst 0, 1) := by decide +kernel
theorem dX6_readPlain_32 : decode cX6_readPlain 32 = .ok (.ireturn, 1) := by decide +kernel
theorem dX6_readPlain_33 : decode cX6_readPlain 33 = .ok (.iconst 0, 1) := by decide +kernel
theorem dX6_readPlain_34 : decode cX6_readPlain 34 = .ok (.istore_n 3, 1) := by decide +kernel
theorem dX6_readPlain_35 : decode cX6_readPlain 35 = .ok (.iload_n 3, 1) := by decide +kernel
theorem dX6_readPlain_36 : decode cX6_readPlain 36 = .ok (.iload_n 2, 1) := by decide +kernel
theorem dX6_readPlain_37 : decode cX6_readPlain 37 = .ok (.if_icmp .ge 28, 3) := by decide +kernel
theorem dX6_readPlain_40 : decode cX6_readPlain 40 = .ok (.aload_n 0, 1) := by decide +kernel
theorem dX6_readPlain_41 : decode cX6_readPlain 41 = .ok (.getfield 21, 3) := by decide +kernel
theorem dX6_readPlain_44 : decode cX6_readPlain 44 = .ok (.getfield 43, 3) := by decide +kernel
theorem dX6_readPlain_47 : decode cX6_readPlain 47 = .ok (.ifCond .eq 18, 3) := by decide +kernel
theorem dX6_readPlain_50 : decode cX6_readPlain 50 = .ok (.aload_n 0, 1) := by decide +kernel
theorem dX6_readPlain_51 : decode cX6_readPlain 51 = .ok (.invokevirtual 46, 3) := by decide +kernel
theorem dX6_readPlain_54 : decode cX6_readPlain 54 = .ok (.ifCond .ne 5, 3) := by decide +kernel
theorem dX6_readPlain_57 : decode cX6_readPlain 57 = .ok (.iconst 0, 1) := by decide +kernel
theorem dX6_readPlain_58 : decode cX6_readPlain 58 = .ok (.ireturn, 1) := by decide +kernel
theorem dX6_readPlain_59 : decode cX6_readPlain 59 = .ok (.iinc 3 1, 3) := by decide +kernel
theorem dX6_readPlain_62 : decode cX6_readPlain 62 = .ok (.goto (-27), 3) := by decide +kernel
theorem dX6_readPlain_65 : decode cX6_readPlain 65 = .ok (.iconst 1, 1) := by decide +kernel
theorem dX6_readPlain_66 : decode cX6_readPlain 66 = .ok (.ireturn, 1) := by decide +kernel
theorem dX6_readSize_0 : decode cX6_readSize 0 = .ok (.aload_n 0, 1) := by decide +kernel
theorem dX6_readSize_1 : decode cX6_readSize 1 = .ok (.getfield 21, 3) := by decide +kernel
theorem dX6_readSize_4 : decode cX6_readSize 4 = .ok (.iconst 0, 1) := by decide +kernel
theorem dX6_readSize_5 : decode cX6_readSize 5 = .ok (.invokevirtual 49, 3) := by decide +kernel
theorem dX6_readSize_8 : decode cX6_readSize 8 = .ok (.ifCond .eq 15, 3) := by decide +kernel
theorem dX6_readSize_11 : decode cX6_readSize 11 = .ok (.aload_n 0, 1) := by decide +kernel
theorem dX6_readSize_12 : decode cX6_readSize 12 = .ok (.getfield 21, 3) := by decide +kernel
theorem dX6_readSize_15 : decode cX6_readSize 15 = .ok (.iconst 1, 1) := by decide +kernel
theorem dX6_readSize_16 : decode cX6_readSize 16 = .ok (.iconst 5, 1) := by decide +kernel
theorem dX6_readSize_17 : decode cX6_readSize 17 = .ok (.invokevirtual 53, 3) := by decide +kernel
theorem dX6_readSize_20 : decode cX6_readSize 20 = .ok (.ifCond .ne 5, 3) := by decide +kernel
theorem dX6_readSize_23 : decode cX6_readSize 23 = .ok (.iconst 0, 1) := by decide +kernel
theorem dX6_readSize_24 : decode cX6_readSize 24 = .ok (.ireturn, 1) := by decide +kernel
theorem dX6_readSize_25 : decode cX6_readSize 25 = .ok (.aload_n 0, 1) := by decide +kernel
theorem dX6_readSize_26 : decode cX6_readSize 26 = .ok (.getfield 21, 3) := by decide +kernel
theorem dX6_readSize_29 : decode cX6_readSize 29 = .ok (.getfield 57, 3) := by decide +kernel
theorem dX6_readSize_32 : decode cX6_readSize 32 = .ok (.istore_n 1, 1) := by decide +kernel
theorem dX6_readSize_33 : decode cX6_readSize 33 = .ok (.aload_n 0, 1) := by decide +kernel
theorem dX6_readSize_34 : decode cX6_readSize 34 = .ok (.getfield 21, 3) := by decide +kernel
theorem dX6_readSize_37 : decode cX6_readSize 37 = .ok (.iconst 1, 1) := by decide +kernel
theorem dX6_readSize_38 : decode cX6_readSize 38 = .ok (.iconst 5, 1) := by decide +kernel
theorem dX6_readSize_39 : decode cX6_readSize 39 = .ok (.invokevirtual 53, 3) := by decide +kernel
theorem dX6_readSize_42 : decode cX6_readSize 42 = .ok (.ifCond .eq 13, 3) := by decide +kernel
theorem dX6_readSize_45 : decode cX6_readSize 45 = .ok (.aload_n 0, 1) := by decide +kernel
theorem dX6_readSize_46 : decode cX6_readSize 46 = .ok (.getfield 21, 3) := by decide +kernel
theorem dX6_readSize_49 : decode cX6_readSize 49 = .ok (.invokevirtual 60, 3) := by decide +kernel
theorem dX6_readSize_52 : decode cX6_readSize 52 = .ok (.ifCond .ne 5, 3) := by decide +kernel
theorem dX6_readSize_55 : decode cX6_readSize 55 = .ok (.iconst 0, 1) := by decide +kernel
theorem dX6_readSize_56 : decode cX6_readSize 56 = .ok (.ireturn, 1) := by decide +kernel
theorem dX6_readSize_57 : decode cX6_readSize 57 = .ok (.aload_n 0, 1) := by decide +kernel
theorem dX6_readSize_58 : decode cX6_readSize 58 = .ok (.getfield 12, 3) := by decide +kernel
theorem dX6_readSize_61 : decode cX6_readSize 61 = .ok (.iload_n 1, 1) := by decide +kernel
theorem dX6_readSize_62 : decode cX6_readSize 62 = .ok (.aload_n 0, 1) := by decide +kernel
theorem dX6_readSize_63 : decode cX6_readSize 63 = .ok (.getfield 21, 3) := by decide +kernel
theorem dX6_readSize_66 : decode cX6_readSize 66 = .ok (.getfield 57, 3) := by decide +kernel
theorem dX6_readSize_69 : decode cX6_readSize 69 = .ok (.invokevirtual 63, 3) := by decide +kernel
theorem dX6_readSize_72 : decode cX6_readSize 72 = .ok (.iconst 1, 1) := by decide +kernel
theorem dX6_readSize_73 : decode cX6_readSize 73 = .ok (.ireturn, 1) := by decide +kernel
theorem dX6_readPart_0 : decode cX6_readPart 0 = .ok (.aload_n 0, 1) := by decide +kernel
theorem dX6_readPart_1 : decode cX6_readPart 1 = .ok (.getfield 21, 3) := by decide +kernel
theorem dX6_readPart_4 : decode cX6_readPart 4 = .ok (.getfield 66, 3) := by decide +kernel
theorem dX6_readPart_7 : decode cX6_readPart 7 = .ok (.tableswitch 115 1 4 #[29, 56, 83, 110], 29) := by decide +kernel
theorem dX6_readPart_36 : decode cX6_readPart 36 = .ok (.aload_n 0, 1) := by decide +kernel
theorem dX6_readPart_37 : decode cX6_readPart 37 = .ok (.dup, 1) := by decide +kernel
theorem dX6_readPart_38 : decode cX6_readPart 38 = .ok (.getfield 29, 3) := by decide +kernel
theorem dX6_readPart_41 : decode cX6_readPart 41 = .ok (.iconst 1, 1) := by decide +kernel
theorem dX6_readPart_42 : decode cX6_readPart 42 = .ok (.iadd, 1) := by decide +kernel
theorem dX6_readPart_43 : decode cX6_readPart 43 = .ok (.putfield 29, 3) := by decide +kernel
theorem dX6_readPart_46 : decode cX6_readPart 46 = .ok (.aload_n 0, 1) := by decide +kernel
theorem dX6_readPart_47 : decode cX6_readPart 47 = .ok (.aload_n 0, 1) := by decide +kernel
theorem dX6_readPart_48 : decode cX6_readPart 48 = .ok (.getfield 12, 3) := by decide +kernel
theorem dX6_readPart_51 : decode cX6_readPart 51 = .ok (.getfield 69, 3) := by decide +kernel
theorem dX6_readPart_54 : decode cX6_readPart 54 = .ok (.aload_n 0, 1) := by decide +kernel
theorem dX6_readPart_55 : decode cX6_readPart 55 = .ok (.getfield 29, 3) := by decide +kernel
theorem dX6_readPart_58 : decode cX6_readPart 58 = .ok (.iconst 0, 1) := by decide +kernel
theorem dX6_readPart_59 : decode cX6_readPart 59 = .ok (.invokevirtual 73, 3) := by decide +kernel
theorem dX6_readPart_62 : decode cX6_readPart 62 = .ok (.ireturn, 1) := by decide +kernel
theorem dX6_readPart_63 : decode cX6_readPart 63 = .ok (.aload_n 0, 1) := by decide +kernel
theorem dX6_readPart_64 : decode cX6_readPart 64 = .ok (.dup, 1) := by decide +kernel
theorem dX6_readPart_65 : decode cX6_readPart 65 = .ok (.getfield 33, 3) := by decide +kernel
theorem dX6_readPart_68 : decode cX6_readPart 68 = .ok (.iconst 1, 1) := by decide +kernel
theorem dX6_readPart_69 : decode cX6_readPart 69 = .ok (.iadd, 1) := by decide +kernel
theorem dX6_readPart_70 : decode cX6_readPart 70 = .ok (.putfield 33, 3) := by decide +kernel
theorem dX6_readPart_73 : decode cX6_readPart 73 = .ok (.aload_n 0, 1) := by decide +kernel
theorem dX6_readPart_74 : decode cX6_readPart 74 = .ok (.aload_n 0, 1) := by decide +kernel
theorem dX6_readPart_75 : decode cX6_readPart 75 = .ok (.getfield 12, 3) := by decide +kernel
theorem dX6_readPart_78 : decode cX6_readPart 78 = .ok (.getfield 77, 3) := by decide +kernel
theorem dX6_readPart_81 : decode cX6_readPart 81 = .ok (.aload_n 0, 1) := by decide +kernel
theorem dX6_readPart_82 : decode cX6_readPart 82 = .ok (.getfield 33, 3) := by decide +kernel
theorem dX6_readPart_85 : decode cX6_readPart 85 = .ok (.iconst 0, 1) := by decide +kernel
theorem dX6_readPart_86 : decode cX6_readPart 86 = .ok (.invokevirtual 73, 3) := by decide +kernel
theorem dX6_readPart_89 : decode cX6_readPart 89 = .ok (.ireturn, 1) := by decide +kernel
theorem dX6_readPart_90 : decode cX6_readPart 90 = .ok (.aload_n 0, 1) := by decide +kernel
theorem dX6_readPart_91 : decode cX6_readPart 91 = .ok (.dup, 1) := by decide +kernel
theorem dX6_readPart_92 : decode cX6_readPart 92 = .ok (.getfield 36, 3) := by decide +kernel
theorem dX6_readPart_95 : decode cX6_readPart 95 = .ok (.iconst 1, 1) := by decide +kernel
theorem dX6_readPart_96 : decode cX6_readPart 96 = .ok (.iadd, 1) := by decide +kernel
theorem dX6_readPart_97 : decode cX6_readPart 97 = .ok (.putfield 36, 3) := by decide +kernel
theorem dX6_readPart_100 : decode cX6_readPart 100 = .ok (.aload_n 0, 1) := by decide +kernel
theorem dX6_readPart_101 : decode cX6_readPart 101 = .ok (.aload_n 0, 1) := by decide +kernel
theorem dX6_readPart_102 : decode cX6_readPart 102 = .ok (.getfield 12, 3) := by decide +kernel
theorem dX6_readPart_105 : decode cX6_readPart 105 = .ok (.getfield 80, 3) := by decide +kernel
theorem dX6_readPart_108 : decode cX6_readPart 108 = .ok (.aload_n 0, 1) := by decide +kernel
theorem dX6_readPart_109 : decode cX6_readPart 109 = .ok (.getfield 36, 3) := by decide +kernel
theorem dX6_readPart_112 : decode cX6_readPart 112 = .ok (.iconst 1, 1) := by decide +kernel
theorem dX6_readPart_113 : decode cX6_readPart 113 = .ok (.invokevirtual 73, 3) := by decide +kernel
theorem dX6_readPart_116 : decode cX6_readPart 116 = .ok (.ireturn, 1) := by decide +kernel
theorem dX6_readPart_117 : decode cX6_readPart 117 = .ok (.aload_n 0, 1) := by decide +kernel
theorem dX6_readPart_118 : decode cX6_readPart 118 = .ok (.invokevirtual 83, 3) := by decide +kernel
theorem dX6_readPart_121 : decode cX6_readPart 121 = .ok (.ireturn, 1) := by decide +kernel
theorem dX6_readPart_122 : decode cX6_readPart 122 = .ok (.aload_n 0, 1) := by decide +kernel
theorem dX6_readPart_123 : decode cX6_readPart 123 = .ok (.getfield 21, 3) := by decide +kernel
theorem dX6_readPart_126 : decode cX6_readPart 126 = .ok (.iconst 2, 1) := by decide +kernel
theorem dX6_readPart_127 : decode cX6_readPart 127 = .ok (.invokevirtual 86, 3) := by decide +kernel
theorem dX6_readPart_130 : decode cX6_readPart 130 = .ok (.ireturn, 1) := by decide +kernel
theorem dX6_readCells_0 : decode cX6_readCells 0 = .ok (.iload_n 2, 1) := by decide +kernel
theorem dX6_readCells_1 : decode cX6_readCells 1 = .ok (.aload_n 0, 1) := by decide +kernel
theorem dX6_readCells_2 : decode cX6_readCells 2 = .ok (.getfield 12, 3) := by decide +kernel
theorem dX6_readCells_5 : decode cX6_readCells 5 = .ok (.getfield 89, 3) := by decide +kernel
theorem dX6_readCells_8 : decode cX6_readCells 8 = .ok (.if_icmp .le 13, 3) := by decide +kernel
theorem dX6_readCells_11 : decode cX6_readCells 11 = .ok (.aload_n 0, 1) := by decide +kernel
theorem dX6_readCells_12 : decode cX6_readCells 12 = .ok (.getfield 21, 3) := by decide +kernel
theorem dX6_readCells_15 : decode cX6_readCells 15 = .ok (.bipush 6, 2) := by decide +kernel
theorem dX6_readCells_17 : decode cX6_readCells 17 = .ok (.invokevirtual 86, 3) := by decide +kernel
theorem dX6_readCells_20 : decode cX6_readCells 20 = .ok (.ireturn, 1) := by decide +kernel
theorem dX6_readCells_21 : decode cX6_readCells 21 = .ok (.aload_n 0, 1) := by decide +kernel
theorem dX6_readCells_22 : decode cX6_readCells 22 = .ok (.getfield 21, 3) := by decide +kernel
theorem dX6_readCells_25 : decode cX6_readCells 25 = .ok (.invokevirtual 92, 3) := by decide +kernel
theorem dX6_readCells_28 : decode cX6_readCells 28 = .ok (.aload_n 0, 1) := by decide +kernel
theorem dX6_readCells_29 : decode cX6_readCells 29 = .ok (.aload_n 1, 1) := by decide +kernel
theorem dX6_readCells_30 : decode cX6_readCells 30 = .ok (.iload_n 2, 1) := by decide +kernel
theorem dX6_readCells_31 : decode cX6_readCells 31 = .ok (.iconst 1, 1) := by decide +kernel
theorem dX6_readCells_32 : decode cX6_readCells 32 = .ok (.isub, 1) := by decide +kernel
theorem dX6_readCells_33 : decode cX6_readCells 33 = .ok (.aload_n 0, 1) := by decide +kernel
theorem dX6_readCells_34 : decode cX6_readCells 34 = .ok (.getfield 12, 3) := by decide +kernel
theorem dX6_readCells_37 : decode cX6_readCells 37 = .ok (.getfield 95, 3) := by decide +kernel
theorem dX6_readCells_40 : decode cX6_readCells 40 = .ok (.imul, 1) := by decide +kernel
theorem dX6_readCells_41 : decode cX6_readCells 41 = .ok (.aload_n 0, 1) := by decide +kernel
theorem dX6_readCells_42 : decode cX6_readCells 42 = .ok (.getfield 12, 3) := by decide +kernel
theorem dX6_readCells_45 : decode cX6_readCells 45 = .ok (.getfield 95, 3) := by decide +kernel
theorem dX6_readCells_48 : decode cX6_readCells 48 = .ok (.iload_n 3, 1) := by decide +kernel
theorem dX6_readCells_49 : decode cX6_readCells 49 = .ok (.invokevirtual 98, 3) := by decide +kernel
theorem dX6_readCells_52 : decode cX6_readCells 52 = .ok (.ireturn, 1) := by decide +kernel
theorem dX6_readRow_0 : decode cX6_readRow 0 = .ok (.iconst 0, 1) := by decide +kernel
theorem dX6_readRow_1 : decode cX6_readRow 1 = .ok (.istore 5, 2) := by decide +kernel
theorem dX6_readRow_3 : decode cX6_readRow 3 = .ok (.iload 5, 2) := by decide +kernel
theorem dX6_readRow_5 : decode cX6_readRow 5 = .ok (.iload_n 3, 1) := by decide +kernel
theorem dX6_readRow_6 : decode cX6_readRow 6 = .ok (.if_icmp .ge 54, 3) := by decide +kernel
theorem dX6_readRow_9 : decode cX6_readRow 9 = .ok (.iload 5, 2) := by decide +kernel
theorem dX6_readRow_11 : decode cX6_readRow 11 = .ok (.ifCond .eq 14, 3) := by decide +kernel
theorem dX6_readRow_14 : decode cX6_readRow 14 = .ok (.aload_n 0, 1) := by decide +kernel
theorem dX6_readRow_15 : decode cX6_readRow 15 = .ok (.getfield 21, 3) := by decide +kernel
theorem dX6_readRow_18 : decode cX6_readRow 18 = .ok (.getfield 43, 3) := by decide +kernel
theorem dX6_readRow_21 : decode cX6_readRow 21 = .ok (.iconst 3, 1) := by decide +kernel
theorem dX6_readRow_22 : decode cX6_readRow 22 = .ok (.if_icmp .ne 38, 3) := by decide +kernel
theorem dX6_readRow_25 : decode cX6_readRow 25 = .ok (.aload_n 0, 1) := by decide +kernel
theorem dX6_readRow_26 : decode cX6_readRow 26 = .ok (.getfield 21, 3) := by decide +kernel
theorem dX6_readRow_29 : decode cX6_readRow 29 = .ok (.iload 4, 2) := by decide +kernel
theorem dX6_readRow_31 : decode cX6_readRow 31 = .ok (.bipush 99, 2) := by decide +kernel
theorem dX6_readRow_33 : decode cX6_readRow 33 = .ok (.invokevirtual 53, 3) := by decide +kernel
theorem dX6_readRow_36 : decode cX6_readRow 36 = .ok (.ifCond .ne 5, 3) := by decide +kernel
theorem dX6_readRow_39 : decode cX6_readRow 39 = .ok (.iconst 0, 1) := by decide +kernel
theorem dX6_readRow_40 : decode cX6_readRow 40 = .ok (.ireturn, 1) := by decide +kernel
theorem dX6_readRow_41 : decode cX6_readRow 41 = .ok (.aload_n 1, 1) := by decide +kernel
theorem dX6_readRow_42 : decode cX6_readRow 42 = .ok (.iload_n 2, 1) := by decide +kernel
theorem dX6_readRow_43 : decode cX6_readRow 43 = .ok (.iload 5, 2) := by decide +kernel
theorem dX6_readRow_45 : decode cX6_readRow 45 = .ok (.iadd, 1) := by decide +kernel
theorem dX6_readRow_46 : decode cX6_readRow 46 = .ok (.aload_n 0, 1) := by decide +kernel
theorem dX6_readRow_47 : decode cX6_readRow 47 = .ok (.getfield 21, 3) := by decide +kernel
theorem dX6_readRow_50 : decode cX6_readRow 50 = .ok (.getfield 57, 3) := by decide +kernel
theorem dX6_readRow_53 : decode cX6_readRow 53 = .ok (.iastore, 1) := by decide +kernel
theorem dX6_readRow_54 : decode cX6_readRow 54 = .ok (.iinc 5 1, 3) := by decide +kernel
theorem dX6_readRow_57 : decode cX6_readRow 57 = .ok (.goto (-54), 3) := by decide +kernel
theorem dX6_readRow_60 : decode cX6_readRow 60 = .ok (.aload_n 0, 1) := by decide +kernel
theorem dX6_readRow_61 : decode cX6_readRow 61 = .ok (.getfield 21, 3) := by decide +kernel
theorem dX6_readRow_64 : decode cX6_readRow 64 = .ok (.getfield 43, 3) := by decide +kernel
theorem dX6_readRow_67 : decode cX6_readRow 67 = .ok (.iconst 3, 1) := by decide +kernel
theorem dX6_readRow_68 : decode cX6_readRow 68 = .ok (.if_icmp .ne 53, 3) := by decide +kernel
theorem dX6_readRow_71 : decode cX6_readRow 71 = .ok (.aload_n 0, 1) := by decide +kernel
theorem dX6_readRow_72 : decode cX6_readRow 72 = .ok (.getfield 21, 3) := by decide +kernel
theorem dX6_readRow_75 : decode cX6_readRow 75 = .ok (.getfield 102, 3) := by decide +kernel
theorem dX6_readRow_78 : decode cX6_readRow 78 = .ok (.iload 4, 2) := by decide +kernel
theorem dX6_readRow_80 : decode cX6_readRow 80 = .ok (.if_icmp .lt 19, 3) := by decide +kernel
theorem dX6_readRow_83 : decode cX6_readRow 83 = .ok (.aload_n 0, 1) := by decide +kernel
theorem dX6_readRow_84 : decode cX6_readRow 84 = .ok (.getfield 21, 3) := by decide +kernel
theorem dX6_readRow_87 : decode cX6_readRow 87 = .ok (.getfield 102, 3) := by decide +kernel
theorem dX6_readRow_90 : decode cX6_readRow 90 = .ok (.bipush 99, 2) := by decide +kernel
theorem dX6_readRow_92 : decode cX6_readRow 92 = .ok (.if_icmp .gt 7, 3) := by decide +kernel
theorem dX6_readRow_95 : decode cX6_readRow 95 = .ok (.iconst 1, 1) := by decide +kernel
theorem dX6_readRow_96 : decode cX6_readRow 96 = .ok (.goto 4, 3) := by decide +kernel
theorem dX6_readRow_99 : decode cX6_readRow 99 = .ok (.iconst 0, 1) := by decide +kernel
theorem dX6_readRow_100 : decode cX6_readRow 100 = .ok (.istore 6, 2) := by decide +kernel
theorem dX6_readRow_102 : decode cX6_readRow 102 = .ok (.aload_n 0, 1) := by decide +kernel
theorem dX6_readRow_103 : decode cX6_readRow 103 = .ok (.getfield 21, 3) := by decide +kernel
theorem dX6_readRow_106 : decode cX6_readRow 106 = .ok (.iload 6, 2) := by decide +kernel
theorem dX6_readRow_108 : decode cX6_readRow 108 = .ok (.ifCond .eq 8, 3) := by decide +kernel
theorem dX6_readRow_111 : decode cX6_readRow 111 = .ok (.bipush 6, 2) := by decide +kernel
theorem dX6_readRow_113 : decode cX6_readRow 113 = .ok (.goto 4, 3) := by decide +kernel
theorem dX6_readRow_116 : decode cX6_readRow 116 = .ok (.iconst 4, 1) := by decide +kernel
theorem dX6_readRow_117 : decode cX6_readRow 117 = .ok (.invokevirtual 86, 3) := by decide +kernel
theorem dX6_readRow_120 : decode cX6_readRow 120 = .ok (.ireturn, 1) := by decide +kernel
theorem dX6_readRow_121 : decode cX6_readRow 121 = .ok (.aload_n 0, 1) := by decide +kernel
theorem dX6_readRow_122 : decode cX6_readRow 122 = .ok (.getfield 21, 3) := by decide +kernel
theorem dX6_readRow_125 : decode cX6_readRow 125 = .ok (.getfield 43, 3) := by decide +kernel
theorem dX6_readRow_128 : decode cX6_readRow 128 = .ok (.iconst 4, 1) := by decide +kernel
theorem dX6_readRow_129 : decode cX6_readRow 129 = .ok (.if_icmp .ne 19, 3) := by decide +kernel
theorem dX6_readRow_132 : decode cX6_readRow 132 = .ok (.aload_n 0, 1) := by decide +kernel
theorem dX6_readRow_133 : decode cX6_readRow 133 = .ok (.getfield 21, 3) := by decide +kernel
theorem dX6_readRow_136 : decode cX6_readRow 136 = .ok (.getfield 105, 3) := by decide +kernel
theorem dX6_readRow_139 : decode cX6_readRow 139 = .ok (.bipush 59, 2) := by decide +kernel
theorem dX6_readRow_141 : decode cX6_readRow 141 = .ok (.if_icmp .ne 7, 3) := by decide +kernel
theorem dX6_readRow_144 : decode cX6_readRow 144 = .ok (.iconst 1, 1) := by decide +kernel
theorem dX6_readRow_145 : decode cX6_readRow 145 = .ok (.goto 4, 3) := by decide +kernel
theorem dX6_readRow_148 : decode cX6_readRow 148 = .ok (.iconst 0, 1) := by decide +kernel
theorem dX6_readRow_149 : decode cX6_readRow 149 = .ok (.istore 6, 2) := by decide +kernel
theorem dX6_readRow_151 : decode cX6_readRow 151 = .ok (.iload 6, 2) := by decide +kernel
theorem dX6_readRow_153 : decode cX6_readRow 153 = .ok (.ifCond .eq 21, 3) := by decide +kernel
theorem dX6_readRow_156 : decode cX6_readRow 156 = .ok (.iload 5, 2) := by decide +kernel
theorem dX6_readRow_158 : decode cX6_readRow 158 = .ok (.iload_n 3, 1) := by decide +kernel
theorem dX6_readRow_159 : decode cX6_readRow 159 = .ok (.if_icmp .ge 15, 3) := by decide +kernel
theorem dX6_readRow_162 : decode cX6_readRow 162 = .ok (.aload_n 0, 1) := by decide +kernel
theorem dX6_readRow_163 : decode cX6_readRow 163 = .ok (.getfield 21, 3) := by decide +kernel
theorem dX6_readRow_166 : decode cX6_readRow 166 = .ok (.bipush 7, 2) := by decide +kernel
theorem dX6_readRow_168 : decode cX6_readRow 168 = .ok (.invokevirtual 86, 3) := by decide +kernel
theorem dX6_readRow_171 : decode cX6_readRow 171 = .ok (.goto 10, 3) := by decide +kernel
theorem dX6_readRow_174 : decode cX6_readRow 174 = .ok (.aload_n 0, 1) := by decide +kernel
theorem dX6_readRow_175 : decode cX6_readRow 175 = .ok (.getfield 21, 3) := by decide +kernel
theorem dX6_readRow_178 : decode cX6_readRow 178 = .ok (.invokevirtual 60, 3) := by decide +kernel
theorem dX6_readRow_181 : decode cX6_readRow 181 = .ok (.ireturn, 1) := by decide +kernel
theorem dX6_readVillage_0 : decode cX6_readVillage 0 = .ok (.aload_n 0, 1) := by decide +kernel
theorem dX6_readVillage_1 : decode cX6_readVillage 1 = .ok (.getfield 12, 3) := by decide +kernel
theorem dX6_readVillage_4 : decode cX6_readVillage 4 = .ok (.getfield 108, 3) := by decide +kernel
theorem dX6_readVillage_7 : decode cX6_readVillage 7 = .ok (.istore_n 1, 1) := by decide +kernel
theorem dX6_readVillage_8 : decode cX6_readVillage 8 = .ok (.iload_n 1, 1) := by decide +kernel
theorem dX6_readVillage_9 : decode cX6_readVillage 9 = .ok (.bipush 6, 2) := by decide +kernel
theorem dX6_readVillage_11 : decode cX6_readVillage 11 = .ok (.if_icmp .lt 13, 3) := by decide +kernel
theorem dX6_readVillage_14 : decode cX6_readVillage 14 = .ok (.aload_n 0, 1) := by decide +kernel
theorem dX6_readVillage_15 : decode cX6_readVillage 15 = .ok (.getfield 21, 3) := by decide +kernel
theorem dX6_readVillage_18 : decode cX6_readVillage 18 = .ok (.bipush 6, 2) := by decide +kernel
theorem dX6_readVillage_20 : decode cX6_readVillage 20 = .ok (.invokevirtual 86, 3) := by decide +kernel
theorem dX6_readVillage_23 : decode cX6_readVillage 23 = .ok (.ireturn, 1) := by decide +kernel
theorem dX6_readVillage_24 : decode cX6_readVillage 24 = .ok (.aload_n 0, 1) := by decide +kernel
theorem dX6_readVillage_25 : decode cX6_readVillage 25 = .ok (.getfield 21, 3) := by decide +kernel
theorem dX6_readVillage_28 : decode cX6_readVillage 28 = .ok (.invokevirtual 92, 3) := by decide +kernel
theorem dX6_readVillage_31 : decode cX6_readVillage 31 = .ok (.aload_n 0, 1) := by decide +kernel
theorem dX6_readVillage_32 : decode cX6_readVillage 32 = .ok (.getfield 21, 3) := by decide +kernel
theorem dX6_readVillage_35 : decode cX6_readVillage 35 = .ok (.invokevirtual 111, 3) := by decide +kernel
theorem dX6_readVillage_38 : decode cX6_readVillage 38 = .ok (.ifCond .ne 12, 3) := by decide +kernel
theorem dX6_readVillage_41 : decode cX6_readVillage 41 = .ok (.aload_n 0, 1) := by decide +kernel
theorem dX6_readVillage_42 : decode cX6_readVillage 42 = .ok (.getfield 21, 3) := by decide +kernel
theorem dX6_readVillage_45 : decode cX6_readVillage 45 = .ok (.iconst 2, 1) := by decide +kernel
theorem dX6_readVillage_46 : decode cX6_readVillage 46 = .ok (.invokevirtual 86, 3) := by decide +kernel
theorem dX6_readVillage_49 : decode cX6_readVillage 49 = .ok (.ireturn, 1) := by decide +kernel
theorem dX6_readVillage_50 : decode cX6_readVillage 50 = .ok (.aload_n 0, 1) := by decide +kernel
theorem dX6_readVillage_51 : decode cX6_readVillage 51 = .ok (.getfield 12, 3) := by decide +kernel
theorem dX6_readVillage_54 : decode cX6_readVillage 54 = .ok (.aload_n 0, 1) := by decide +kernel
theorem dX6_readVillage_55 : decode cX6_readVillage 55 = .ok (.getfield 21, 3) := by decide +kernel
theorem dX6_readVillage_58 : decode cX6_readVillage 58 = .ok (.getfield 114, 3) := by decide +kernel
theorem dX6_readVillage_61 : decode cX6_readVillage 61 = .ok (.invokevirtual 118, 3) := by decide +kernel
theorem dX6_readVillage_64 : decode cX6_readVillage 64 = .ok (.iconst (-1), 1) := by decide +kernel
theorem dX6_readVillage_65 : decode cX6_readVillage 65 = .ok (.if_icmp .eq 12, 3) := by decide +kernel
theorem dX6_readVillage_68 : decode cX6_readVillage 68 = .ok (.aload_n 0, 1) := by decide +kernel
theorem dX6_readVillage_69 : decode cX6_readVillage 69 = .ok (.getfield 21, 3) := by decide +kernel
theorem dX6_readVillage_72 : decode cX6_readVillage 72 = .ok (.iconst 3, 1) := by decide +kernel
theorem dX6_readVillage_73 : decode cX6_readVillage 73 = .ok (.invokevirtual 86, 3) := by decide +kernel
theorem dX6_readVillage_76 : decode cX6_readVillage 76 = .ok (.ireturn, 1) := by decide +kernel
theorem dX6_readVillage_77 : decode cX6_readVillage 77 = .ok (.aload_n 0, 1) := by decide +kernel
theorem dX6_readVillage_78 : decode cX6_readVillage 78 = .ok (.getfield 12, 3) := by decide +kernel
theorem dX6_readVillage_81 : decode cX6_readVillage 81 = .ok (.getfield 122, 3) := by decide +kernel
theorem dX6_readVillage_84 : decode cX6_readVillage 84 = .ok (.iload_n 1, 1) := by decide +kernel
theorem dX6_readVillage_85 : decode cX6_readVillage 85 = .ok (.aload_n 0, 1) := by decide +kernel
theorem dX6_readVillage_86 : decode cX6_readVillage 86 = .ok (.getfield 21, 3) := by decide +kernel
theorem dX6_readVillage_89 : decode cX6_readVillage 89 = .ok (.getfield 114, 3) := by decide +kernel
theorem dX6_readVillage_92 : decode cX6_readVillage 92 = .ok (.lastore, 1) := by decide +kernel
theorem dX6_readVillage_93 : decode cX6_readVillage 93 = .ok (.aload_n 0, 1) := by decide +kernel
theorem dX6_readVillage_94 : decode cX6_readVillage 94 = .ok (.getfield 21, 3) := by decide +kernel
theorem dX6_readVillage_97 : decode cX6_readVillage 97 = .ok (.invokevirtual 92, 3) := by decide +kernel
theorem dX6_readVillage_100 : decode cX6_readVillage 100 = .ok (.aload_n 0, 1) := by decide +kernel
theorem dX6_readVillage_101 : decode cX6_readVillage 101 = .ok (.getfield 21, 3) := by decide +kernel
theorem dX6_readVillage_104 : decode cX6_readVillage 104 = .ok (.invokevirtual 126, 3) := by decide +kernel
theorem dX6_readVillage_107 : decode cX6_readVillage 107 = .ok (.ifCond .ne 12, 3) := by decide +kernel
theorem dX6_readVillage_110 : decode cX6_readVillage 110 = .ok (.aload_n 0, 1) := by decide +kernel
theorem dX6_readVillage_111 : decode cX6_readVillage 111 = .ok (.getfield 21, 3) := by decide +kernel
theorem dX6_readVillage_114 : decode cX6_readVillage 114 = .ok (.iconst 2, 1) := by decide +kernel
theorem dX6_readVillage_115 : decode cX6_readVillage 115 = .ok (.invokevirtual 86, 3) := by decide +kernel
theorem dX6_readVillage_118 : decode cX6_readVillage 118 = .ok (.ireturn, 1) := by decide +kernel
theorem dX6_readVillage_119 : decode cX6_readVillage 119 = .ok (.aload_n 0, 1) := by decide +kernel
theorem dX6_readVillage_120 : decode cX6_readVillage 120 = .ok (.getfield 12, 3) := by decide +kernel
theorem dX6_readVillage_123 : decode cX6_readVillage 123 = .ok (.getfield 129, 3) := by decide +kernel
theorem dX6_readVillage_126 : decode cX6_readVillage 126 = .ok (.iload_n 1, 1) := by decide +kernel
theorem dX6_readVillage_127 : decode cX6_readVillage 127 = .ok (.aload_n 0, 1) := by decide +kernel
theorem dX6_readVillage_128 : decode cX6_readVillage 128 = .ok (.getfield 21, 3) := by decide +kernel
theorem dX6_readVillage_131 : decode cX6_readVillage 131 = .ok (.getfield 66, 3) := by decide +kernel
theorem dX6_readVillage_134 : decode cX6_readVillage 134 = .ok (.bipush 18, 2) := by decide +kernel
theorem dX6_readVillage_136 : decode cX6_readVillage 136 = .ok (.isub, 1) := by decide +kernel
theorem dX6_readVillage_137 : decode cX6_readVillage 137 = .ok (.iastore, 1) := by decide +kernel
theorem dX6_readVillage_138 : decode cX6_readVillage 138 = .ok (.aload_n 0, 1) := by decide +kernel
theorem dX6_readVillage_139 : decode cX6_readVillage 139 = .ok (.getfield 12, 3) := by decide +kernel
theorem dX6_readVillage_142 : decode cX6_readVillage 142 = .ok (.dup, 1) := by decide +kernel
theorem dX6_readVillage_143 : decode cX6_readVillage 143 = .ok (.getfield 108, 3) := by decide +kernel
theorem dX6_readVillage_146 : decode cX6_readVillage 146 = .ok (.iconst 1, 1) := by decide +kernel
theorem dX6_readVillage_147 : decode cX6_readVillage 147 = .ok (.iadd, 1) := by decide +kernel
theorem dX6_readVillage_148 : decode cX6_readVillage 148 = .ok (.putfield 108, 3) := by decide +kernel
theorem dX6_readVillage_151 : decode cX6_readVillage 151 = .ok (.aload_n 0, 1) := by decide +kernel
theorem dX6_readVillage_152 : decode cX6_readVillage 152 = .ok (.getfield 21, 3) := by decide +kernel
theorem dX6_readVillage_155 : decode cX6_readVillage 155 = .ok (.invokevirtual 92, 3) := by decide +kernel
theorem dX6_readVillage_158 : decode cX6_readVillage 158 = .ok (.aload_n 0, 1) := by decide +kernel
theorem dX6_readVillage_159 : decode cX6_readVillage 159 = .ok (.getfield 21, 3) := by decide +kernel
theorem dX6_readVillage_162 : decode cX6_readVillage 162 = .ok (.getfield 66, 3) := by decide +kernel
theorem dX6_readVillage_165 : decode cX6_readVillage 165 = .ok (.iconst 5, 1) := by decide +kernel
theorem dX6_readVillage_166 : decode cX6_readVillage 166 = .ok (.if_icmp .eq 11, 3) := by decide +kernel
theorem dX6_readVillage_169 : decode cX6_readVillage 169 = .ok (.aload_n 0, 1) := by decide +kernel
theorem dX6_readVillage_170 : decode cX6_readVillage 170 = .ok (.getfield 21, 3) := by decide +kernel
theorem dX6_readVillage_173 : decode cX6_readVillage 173 = .ok (.invokevirtual 60, 3) := by decide +kernel
theorem dX6_readVillage_176 : decode cX6_readVillage 176 = .ok (.ireturn, 1) := by decide +kernel
theorem dX6_readVillage_177 : decode cX6_readVillage 177 = .ok (.aload_n 0, 1) := by decide +kernel
theorem dX6_readVillage_178 : decode cX6_readVillage 178 = .ok (.getfield 12, 3) := by decide +kernel
theorem dX6_readVillage_181 : decode cX6_readVillage 181 = .ok (.dup, 1) := by decide +kernel
theorem dX6_readVillage_182 : decode cX6_readVillage 182 = .ok (.getfield 132, 3) := by decide +kernel
theorem dX6_readVillage_185 : decode cX6_readVillage 185 = .ok (.iconst 1, 1) := by decide +kernel
theorem dX6_readVillage_186 : decode cX6_readVillage 186 = .ok (.iload_n 1, 1) := by decide +kernel
theorem dX6_readVillage_187 : decode cX6_readVillage 187 = .ok (.ishl, 1) := by decide +kernel
theorem dX6_readVillage_188 : decode cX6_readVillage 188 = .ok (.ior, 1) := by decide +kernel
theorem dX6_readVillage_189 : decode cX6_readVillage 189 = .ok (.putfield 132, 3) := by decide +kernel
theorem dX6_readVillage_192 : decode cX6_readVillage 192 = .ok (.aload_n 0, 1) := by decide +kernel
theorem dX6_readVillage_193 : decode cX6_readVillage 193 = .ok (.getfield 21, 3) := by decide +kernel
theorem dX6_readVillage_196 : decode cX6_readVillage 196 = .ok (.invokevirtual 92, 3) := by decide +kernel
theorem dX6_readVillage_199 : decode cX6_readVillage 199 = .ok (.aload_n 0, 1) := by decide +kernel
theorem dX6_readVillage_200 : decode cX6_readVillage 200 = .ok (.aload_n 0, 1) := by decide +kernel
theorem dX6_readVillage_201 : decode cX6_readVillage 201 = .ok (.getfield 12, 3) := by decide +kernel
theorem dX6_readVillage_204 : decode cX6_readVillage 204 = .ok (.getfield 135, 3) := by decide +kernel
theorem dX6_readVillage_207 : decode cX6_readVillage 207 = .ok (.iload_n 1, 1) := by decide +kernel
theorem dX6_readVillage_208 : decode cX6_readVillage 208 = .ok (.bipush 9, 2) := by decide +kernel
theorem dX6_readVillage_210 : decode cX6_readVillage 210 = .ok (.imul, 1) := by decide +kernel
theorem dX6_readVillage_211 : decode cX6_readVillage 211 = .ok (.aload_n 0, 1) := by decide +kernel
theorem dX6_readVillage_212 : decode cX6_readVillage 212 = .ok (.getfield 12, 3) := by decide +kernel
theorem dX6_readVillage_215 : decode cX6_readVillage 215 = .ok (.iload_n 1, 1) := by decide +kernel
theorem dX6_readVillage_216 : decode cX6_readVillage 216 = .ok (.invokevirtual 138, 3) := by decide +kernel
theorem dX6_readVillage_219 : decode cX6_readVillage 219 = .ok (.iconst 0, 1) := by decide +kernel
theorem dX6_readVillage_220 : decode cX6_readVillage 220 = .ok (.invokevirtual 98, 3) := by decide +kernel
theorem dX6_readVillage_223 : decode cX6_readVillage 223 = .ok (.ireturn, 1) := by decide +kernel
theorem dX7_init_0 : decode cX7_init 0 = .ok (.aload_n 0, 1) := by decide +kernel
theorem dX7_init_1 : decode cX7_init 1 = .ok (.invokespecial 3, 3) := by decide +kernel
theorem dX7_init_4 : decode cX7_init 4 = .ok (.aload_n 0, 1) := by decide +kernel
theorem dX7_init_5 : decode cX7_init 5 = .ok (.bipush 26, 2) := by decide +kernel
theorem dX7_init_7 : decode cX7_init 7 = .ok (.newarray .long, 2) := by decide +kernel
theorem dX7_init_9 : decode cX7_init 9 = .ok (.putfield 9, 3) := by decide +kernel
theorem dX7_init_12 : decode cX7_init 12 = .ok (.aload_n 0, 1) := by decide +kernel
theorem dX7_init_13 : decode cX7_init 13 = .ok (.iconst 0, 1) := by decide +kernel
theorem dX7_init_14 : decode cX7_init 14 = .ok (.newarray .byte, 2) := by decide +kernel
theorem dX7_init_16 : decode cX7_init 16 = .ok (.putfield 15, 3) := by decide +kernel
theorem dX7_init_19 : decode cX7_init 19 = .ok (.iconst 0, 1) := by decide +kernel
theorem dX7_init_20 : decode cX7_init 20 = .ok (.istore_n 1, 1) := by decide +kernel
theorem dX7_init_21 : decode cX7_init 21 = .ok (.iconst 0, 1) := by decide +kernel
theorem dX7_init_22 : decode cX7_init 22 = .ok (.istore_n 2, 1) := by decide +kernel
theorem dX7_init_23 : decode cX7_init 23 = .ok (.iload_n 2, 1) := by decide +kernel
theorem dX7_init_24 : decode cX7_init 24 = .ok (.ldc 19, 2) := by decide +kernel
theorem dX7_init_26 : decode cX7_init 26 = .ok (.invokevirtual 21, 3) := by decide +kernel
theorem dX7_init_29 : decode cX7_init 29 = .ok (.if_icmp .ge 56, 3) := by decide +kernel
theorem dX7_init_32 : decode cX7_init 32 = .ok (.iload_n 1, 1) := by decide +kernel
theorem dX7_init_33 : decode cX7_init 33 = .ok (.bipush 26, 2) := by decide +kernel
theorem dX7_init_35 : decode cX7_init 35 = .ok (.if_icmp .ge 50, 3) := by decide +kernel
theorem dX7_init_38 : decode cX7_init 38 = .ok (.ldc 19, 2) := by decide +kernel
theorem dX7_init_40 : decode cX7_init 40 = .ok (.iload_n 2, 1) := by decide +kernel
theorem dX7_init_41 : decode cX7_init 41 = .ok (.invokevirtual 27, 3) := by decide +kernel
theorem dX7_init_44 : decode cX7_init 44 = .ok (.istore_n 3, 1) := by decide +kernel
theorem dX7_init_45 : decode cX7_init 45 = .ok (.iload_n 3, 1) := by decide +kernel
theorem dX7_init_46 : decode cX7_init 46 = .ok (.bipush 32, 2) := by decide +kernel
theorem dX7_init_48 : decode cX7_init 48 = .ok (.if_icmp .ne 9, 3) := by decide +kernel
theorem dX7_init_51 : decode cX7_init 51 = .ok (.iinc 1 1, 3) := by decide +kernel
theorem dX7_init_54 : decode cX7_init 54 = .ok (.goto 25, 3) := by decide +kernel
theorem dX7_init_57 : decode cX7_init 57 = .ok (.aload_n 0, 1) := by decide +kernel
theorem dX7_init_58 : decode cX7_init 58 = .ok (.getfield 9, 3) := by decide +kernel
theorem dX7_init_61 : decode cX7_init 61 = .ok (.iload_n 1, 1) := by decide +kernel
theorem dX7_init_62 : decode cX7_init 62 = .ok (.aload_n 0, 1) := by decide +kernel
theorem dX7_init_63 : decode cX7_init 63 = .ok (.getfield 9, 3) := by decide +kernel
theorem dX7_init_66 : decode cX7_init 66 = .ok (.iload_n 1, 1) := by decide +kernel
theorem dX7_init_67 : decode cX7_init 67 = .ok (.laload, 1) := by decide +kernel
theorem dX7_init_68 : decode cX7_init 68 = .ok (.iconst 5, 1) := by decide +kernel
theorem dX7_init_69 : decode cX7_init 69 = .ok (.lshl, 1) := by decide +kernel
theorem dX7_init_70 : decode cX7_init 70 = .ok (.iload_n 3, 1) := by decide +kernel
theorem dX7_init_71 : decode cX7_init 71 = .ok (.bipush 97, 2) := by decide +kernel
theorem dX7_init_73 : decode cX7_init 73 = .ok (.isub, 1) := by decide +kernel
theorem dX7_init_74 : decode cX7_init 74 = .ok (.iconst 1, 1) := by decide +kernel
theorem dX7_init_75 : decode cX7_init 75 = .ok (.iadd, 1) := by decide +kernel
theorem dX7_init_76 : decode cX7_init 76 = .ok (.i2l, 1) := by decide +kernel
theorem dX7_init_77 : decode cX7_init 77 = .ok (.lor, 1) := by decide +kernel
theorem dX7_init_78 : decode cX7_init 78 = .ok (.lastore, 1) := by decide +kernel
theorem dX7_init_79 : decode cX7_init 79 = .ok (.iinc 2 1, 3) := by decide +kernel
theorem dX7_init_82 : decode cX7_init 82 = .ok (.goto (-59), 3) := by decide +kernel
theorem dX7_init_85 : decode cX7_init 85 = .ok (.return_, 1) := by decide +kernel
theorem dX7_begin_0 : decode cX7_begin 0 = .ok (.aload_n 0, 1) := by decide +kernel
theorem dX7_begin_1 : decode cX7_begin 1 = .ok (.aload_n 1, 1) := by decide +kernel
theorem dX7_begin_2 : decode cX7_begin 2 = .ok (.putfield 15, 3) := by decide +kernel
theorem dX7_begin_5 : decode cX7_begin 5 = .ok (.aload_n 0, 1) := by decide +kernel
theorem dX7_begin_6 : decode cX7_begin 6 = .ok (.iload_n 2, 1) := by decide +kernel
theorem dX7_begin_7 : decode cX7_begin 7 = .ok (.aload_n 1, 1) := by decide +kernel
theorem dX7_begin_8 : decode cX7_begin 8 = .ok (.arraylength, 1) := by decide +kernel
theorem dX7_begin_9 : decode cX7_begin 9 = .ok (.invokestatic 31, 3) := by decide +kernel
theorem dX7_begin_12 : decode cX7_begin 12 = .ok (.putfield 37, 3) := by decide +kernel
theorem dX7_begin_15 : decode cX7_begin 15 = .ok (.aload_n 0, 1) := by decide +kernel
theorem dX7_begin_16 : decode cX7_begin 16 = .ok (.iconst 0, 1) := by decide +kernel
theorem dX7_begin_17 : decode cX7_begin 17 = .ok (.putfield 40, 3) := by decide +kernel
theorem dX7_begin_20 : decode cX7_begin 20 = .ok (.aload_n 0, 1) := by decide +kernel
theorem dX7_begin_21 : decode cX7_begin 21 = .ok (.iconst 0, 1) := by decide +kernel
theorem dX7_begin_22 : decode cX7_begin 22 = .ok (.putfield 43, 3) := by decide +kernel
theorem dX7_begin_25 : decode cX7_begin 25 = .ok (.aload_n 0, 1) := by decide +kernel
theorem dX7_begin_26 : decode cX7_begin 26 = .ok (.iconst (-1), 1) := by decide +kernel
theorem dX7_begin_27 : decode cX7_begin 27 = .ok (.putfield 46, 3) := by decide +kernel
theorem dX7_begin_30 : decode cX7_begin 30 = .ok (.aload_n 0, 1) := by decide +kernel
theorem dX7_begin_31 : decode cX7_begin 31 = .ok (.invokevirtual 49, 3) := by decide +kernel
theorem dX7_begin_34 : decode cX7_begin 34 = .ok (.return_, 1) := by decide +kernel
theorem dX7_step_0 : decode cX7_step 0 = .ok (.aload_n 0, 1) := by decide +kernel
theorem dX7_step_1 : decode cX7_step 1 = .ok (.getfield 40, 3) := by decide +kernel
theorem dX7_step_4 : decode cX7_step 4 = .ok (.aload_n 0, 1) := by decide +kernel
theorem dX7_step_5 : decode cX7_step 5 = .ok (.getfield 37, 3) := by decide +kernel
theorem dX7_step_8 : decode cX7_step 8 = .ok (.if_icmp .ge 44, 3) := by decide +kernel
theorem dX7_step_11 : decode cX7_step 11 = .ok (.aload_n 0, 1) := by decide +kernel
theorem dX7_step_12 : decode cX7_step 12 = .ok (.getfield 15, 3) := by decide +kernel
theorem dX7_step_15 : decode cX7_step 15 = .ok (.aload_n 0, 1) := by decide +kernel
theorem dX7_step_16 : decode cX7_step 16 = .ok (.getfield 40, 3) := by decide +kernel
theorem dX7_step_19 : decode cX7_step 19 = .ok (.baload, 1) := by decide +kernel
theorem dX7_step_20 : decode cX7_step 20 = .ok (.bipush 10, 2) := by decide +kernel
theorem dX7_step_22 : decode cX7_step 22 = .ok (.if_icmp .eq 17, 3) := by decide +kernel
theorem dX7_step_25 : decode cX7_step 25 = .ok (.aload_n 0, 1) := by decide +kernel
theorem dX7_step_26 : decode cX7_step 26 = .ok (.getfield 15, 3) := by decide +kernel
theorem dX7_step_29 : decode cX7_step 29 = .ok (.aload_n 0, 1) := by decide +kernel
theorem dX7_step_30 : decode cX7_step 30 = .ok (.getfield 40, 3) := by decide +kernel
theorem dX7_step_33 : decode cX7_step 33 = .ok (.baload, 1) := by decide +kernel
theorem dX7_step_34 : decode cX7_step 34 = .ok (.bipush 32, 2) := by decide +kernel
theorem dX7_step_36 : decode cX7_step 36 = .ok (.if_icmp .ne 16, 3) := by decide +kernel
theorem dX7_step_39 : decode cX7_step 39 = .ok (.aload_n 0, 1) := by decide +kernel
theorem dX7_step_40 : decode cX7_step 40 = .ok (.dup, 1) := by decide +kernel
theorem dX7_step_41 : decode cX7_step 41 = .ok (.getfield 40, 3) := by decide +kernel
theorem dX7_step_44 : decode cX7_step 44 = .ok (.iconst 1, 1) := by decide +kernel
theorem dX7_step_45 : decode cX7_step 45 = .ok (.iadd, 1) := by decide +kernel
theorem dX7_step_46 : decode cX7_step 46 = .ok (.putfield 40, 3) := by decide +kernel
theorem dX7_step_49 : decode cX7_step 49 = .ok (.goto (-49), 3) := by decide +kernel
theorem dX7_step_52 : decode cX7_step 52 = .ok (.aload_n 0, 1) := by decide +kernel
theorem dX7_step_53 : decode cX7_step 53 = .ok (.aload_n 0, 1) := by decide +kernel
theorem dX7_step_54 : decode cX7_step 54 = .ok (.getfield 40, 3) := by decide +kernel
theorem dX7_step_57 : decode cX7_step 57 = .ok (.putfield 52, 3) := by decide +kernel
theorem dX7_step_60 : decode cX7_step 60 = .ok (.aload_n 0, 1) := by decide +kernel
theorem dX7_step_61 : decode cX7_step 61 = .ok (.iconst (-1), 1) := by decide +kernel
theorem dX7_step_62 : decode cX7_step 62 = .ok (.putfield 55, 3) := by decide +kernel
theorem dX7_step_65 : decode cX7_step 65 = .ok (.aload_n 0, 1) := by decide +kernel
theorem dX7_step_66 : decode cX7_step 66 = .ok (.getfield 40, 3) := by decide +kernel
theorem dX7_step_69 : decode cX7_step 69 = .ok (.aload_n 0, 1) := by decide +kernel
theorem dX7_step_70 : decode cX7_step 70 = .ok (.getfield 37, 3) := by decide +kernel
theorem dX7_step_73 : decode cX7_step 73 = .ok (.if_icmp .lt 11, 3) := by decide +kernel
theorem dX7_step_76 : decode cX7_step 76 = .ok (.aload_n 0, 1) := by decide +kernel
theorem dX7_step_77 : decode cX7_step 77 = .ok (.iconst 0, 1) := by decide +kernel
theorem dX7_step_78 : decode cX7_step 78 = .ok (.putfield 58, 3) := by decide +kernel
theorem dX7_step_81 : decode cX7_step 81 = .ok (.goto 77, 3) := by decide +kernel
theorem dX7_step_84 : decode cX7_step 84 = .ok (.aload_n 0, 1) := by decide +kernel
theorem dX7_step_85 : decode cX7_step 85 = .ok (.getfield 15, 3) := by decide +kernel
theorem dX7_step_88 : decode cX7_step 88 = .ok (.aload_n 0, 1) := by decide +kernel
theorem dX7_step_89 : decode cX7_step 89 = .ok (.getfield 40, 3) := by decide +kernel
theorem dX7_step_92 : decode cX7_step 92 = .ok (.baload, 1) := by decide +kernel
theorem dX7_step_93 : decode cX7_step 93 = .ok (.bipush 97, 2) := by decide +kernel
theorem dX7_step_95 : decode cX7_step 95 = .ok (.if_icmp .lt 24, 3) := by decide +kernel
theorem dX7_step_98 : decode cX7_step 98 = .ok (.aload_n 0, 1) := by decide +kernel
theorem dX7_step_99 : decode cX7_step 99 = .ok (.getfield 15, 3) := by decide +kernel
theorem dX7_step_102 : decode cX7_step 102 = .ok (.aload_n 0, 1) := by decide +kernel
theorem dX7_step_103 : decode cX7_step 103 = .ok (.getfield 40, 3) := by decide +kernel
theorem dX7_step_106 : decode cX7_step 106 = .ok (.baload, 1) := by decide +kernel
theorem dX7_step_107 : decode cX7_step 107 = .ok (.bipush 122, 2) := by decide +kernel
theorem dX7_step_109 : decode cX7_step 109 = .ok (.if_icmp .gt 10, 3) := by decide +kernel
theorem dX7_step_112 : decode cX7_step 112 = .ok (.aload_n 0, 1) := by decide +kernel
theorem dX7_step_113 : decode cX7_step 113 = .ok (.invokevirtual 61, 3) := by decide +kernel
theorem dX7_step_116 : decode cX7_step 116 = .ok (.goto 42, 3) := by decide +kernel
theorem dX7_step_119 : decode cX7_step 119 = .ok (.aload_n 0, 1) := by decide +kernel
theorem dX7_step_120 : decode cX7_step 120 = .ok (.getfield 15, 3) := by decide +kernel
theorem dX7_step_123 : decode cX7_step 123 = .ok (.aload_n 0, 1) := by decide +kernel
theorem dX7_step_124 : decode cX7_step 124 = .ok (.getfield 40, 3) := by decide +kernel
theorem dX7_step_127 : decode cX7_step 127 = .ok (.baload, 1) := by decide +kernel
theorem dX7_step_128 : decode cX7_step 128 = .ok (.bipush 48, 2) := by decide +kernel
theorem dX7_step_130 : decode cX7_step 130 = .ok (.if_icmp .lt 24, 3) := by decide +kernel
theorem dX7_step_133 : decode cX7_step 133 = .ok (.aload_n 0, 1) := by decide +kernel
theorem dX7_step_134 : decode cX7_step 134 = .ok (.getfield 15, 3) := by decide +kernel
theorem dX7_step_137 : decode cX7_step 137 = .ok (.aload_n 0, 1) := by decide +kernel
theorem dX7_step_138 : decode cX7_step 138 = .ok (.getfield 40, 3) := by decide +kernel
theorem dX7_step_141 : decode cX7_step 141 = .ok (.baload, 1) := by decide +kernel
theorem dX7_step_142 : decode cX7_step 142 = .ok (.bipush 57, 2) := by decide +kernel
theorem dX7_step_144 : decode cX7_step 144 = .ok (.if_icmp .gt 10, 3) := by decide +kernel
theorem dX7_step_147 : decode cX7_step 147 = .ok (.aload_n 0, 1) := by decide +kernel
theorem dX7_step_148 : decode cX7_step 148 = .ok (.invokevirtual 64, 3) := by decide +kernel
theorem dX7_step_151 : decode cX7_step 151 = .ok (.goto 7, 3) := by decide +kernel
theorem dX7_step_154 : decode cX7_step 154 = .ok (.aload_n 0, 1) := by decide +kernel
theorem dX7_step_155 : decode cX7_step 155 = .ok (.invokevirtual 67, 3) := by decide +kernel
theorem dX7_step_158 : decode cX7_step 158 = .ok (.return_, 1) := by decide +kernel
theorem dX7_readWord_0 : decode cX7_readWord 0 = .ok (.aload_n 0, 1) := by decide +kernel
theorem dX7_readWord_1 : decode cX7_readWord 1 = .ok (.iconst 2, 1) := by decide +kernel
theorem dX7_readWord_2 : decode cX7_readWord 2 = .ok (.putfield 58, 3) := by decide +kernel
theorem dX7_readWord_5 : decode cX7_readWord 5 = .ok (.aload_n 0, 1) := by decide +kernel
theorem dX7_readWord_6 : decode cX7_readWord 6 = .ok (.iconst 0, 1) := by decide +kernel
theorem dX7_readWord_7 : decode cX7_readWord 7 = .ok (.putfield 70, 3) := by decide +kernel
theorem dX7_readWord_10 : decode cX7_readWord 10 = .ok (.aload_n 0, 1) := by decide +kernel
theorem dX7_readWord_11 : decode cX7_readWord 11 = .ok (.lconst 0, 1) := by decide +kernel
theorem dX7_readWord_12 : decode cX7_readWord 12 = .ok (.putfield 73, 3) := by decide +kernel
theorem dX7_readWord_15 : decode cX7_readWord 15 = .ok (.aload_n 0, 1) := by decide +kernel
theorem dX7_readWord_16 : decode cX7_readWord 16 = .ok (.getfield 40, 3) := by decide +kernel
theorem dX7_readWord_19 : decode cX7_readWord 19 = .ok (.aload_n 0, 1) := by decide +kernel
theorem dX7_readWord_20 : decode cX7_readWord 20 = .ok (.getfield 37, 3) := by decide +kernel
theorem dX7_readWord_23 : decode cX7_readWord 23 = .ok (.if_icmp .ge 80, 3) := by decide +kernel
theorem dX7_readWord_26 : decode cX7_readWord 26 = .ok (.aload_n 0, 1) := by decide +kernel
theorem dX7_readWord_27 : decode cX7_readWord 27 = .ok (.getfield 15, 3) := by decide +kernel
theorem dX7_readWord_30 : decode cX7_readWord 30 = .ok (.aload_n 0, 1) := by decide +kernel
theorem dX7_readWord_31 : decode cX7_readWord 31 = .ok (.getfield 40, 3) := by decide +kernel
theorem dX7_readWord_34 : decode cX7_readWord 34 = .ok (.baload, 1) := by decide +kernel
theorem dX7_readWord_35 : decode cX7_readWord 35 = .ok (.bipush 97, 2) := by decide +kernel
theorem dX7_readWord_37 : decode cX7_readWord 37 = .ok (.if_icmp .lt 66, 3) := by decide +kernel
theorem dX7_readWord_40 : decode cX7_readWord 40 = .ok (.aload_n 0, 1) := by decide +kernel
theorem dX7_readWord_41 : decode cX7_readWord 41 = .ok (.getfield 15, 3) := by decide +kernel
theorem dX7_readWord_44 : decode cX7_readWord 44 = .ok (.aload_n 0, 1) := by decide +kernel
theorem dX7_readWord_45 : decode cX7_readWord 45 = .ok (.getfield 40, 3) := by decide +kernel
theorem dX7_readWord_48 : decode cX7_readWord 48 = .ok (.baload, 1) := by decide +kernel
theorem dX7_readWord_49 : decode cX7_readWord 49 = .ok (.bipush 122, 2) := by decide +kernel
theorem dX7_readWord_51 : decode cX7_readWord 51 = .ok (.if_icmp .gt 52, 3) := by decide +kernel
theorem dX7_readWord_54 : decode cX7_readWord 54 = .ok (.aload_n 0, 1) := by decide +kernel
theorem dX7_readWord_55 : decode cX7_readWord 55 = .ok (.dup, 1) := by decide +kernel
theorem dX7_readWord_56 : decode cX7_readWord 56 = .ok (.getfield 70, 3) := by decide +kernel
theorem dX7_readWord_59 : decode cX7_readWord 59 = .ok (.iconst 1, 1) := by decide +kernel
theorem dX7_readWord_60 : decode cX7_readWord 60 = .ok (.iadd, 1) := by decide +kernel
theorem dX7_readWord_61 : decode cX7_readWord 61 = .ok (.putfield 70, 3) := by decide +kernel
theorem dX7_readWord_64 : decode cX7_readWord 64 = .ok (.aload_n 0, 1) := by decide +kernel
theorem dX7_readWord_65 : decode cX7_readWord 65 = .ok (.aload_n 0, 1) := by decide +kernel
theorem dX7_readWord_66 : decode cX7_readWord 66 = .ok (.getfield 73, 3) := by decide +kernel
theorem dX7_readWord_69 : decode cX7_readWord 69 = .ok (.iconst 5, 1) := by decide +kernel
theorem dX7_readWord_70 : decode cX7_readWord 70 = .ok (.lshl, 1) := by decide +kernel
theorem dX7_readWord_71 : decode cX7_readWord 71 = .ok (.aload_n 0, 1) := by decide +kernel
theorem dX7_readWord_72 : decode cX7_readWord 72 = .ok (.getfield 15, 3) := by decide +kernel
theorem dX7_readWord_75 : decode cX7_readWord 75 = .ok (.aload_n 0, 1) := by decide +kernel
theorem dX7_readWord_76 : decode cX7_readWord 76 = .ok (.getfield 40, 3) := by decide +kernel
theorem dX7_readWord_79 : decode cX7_readWord 79 = .ok (.baload, 1) := by decide +kernel
theorem dX7_readWord_80 : decode cX7_readWord 80 = .ok (.bipush 97, 2) := by decide +kernel
theorem dX7_readWord_82 : decode cX7_readWord 82 = .ok (.isub, 1) := by decide +kernel
theorem dX7_readWord_83 : decode cX7_readWord 83 = .ok (.iconst 1, 1) := by decide +kernel
theorem dX7_readWord_84 : decode cX7_readWord 84 = .ok (.iadd, 1) := by decide +kernel
theorem dX7_readWord_85 : decode cX7_readWord 85 = .ok (.i2l, 1) := by decide +kernel
theorem dX7_readWord_86 : decode cX7_readWord 86 = .ok (.lor, 1) := by decide +kernel
theorem dX7_readWord_87 : decode cX7_readWord 87 = .ok (.putfield 73, 3) := by decide +kernel
theorem dX7_readWord_90 : decode cX7_readWord 90 = .ok (.aload_n 0, 1) := by decide +kernel
theorem dX7_readWord_91 : decode cX7_readWord 91 = .ok (.dup, 1) := by decide +kernel
theorem dX7_readWord_92 : decode cX7_readWord 92 = .ok (.getfield 40, 3) := by decide +kernel
theorem dX7_readWord_95 : decode cX7_readWord 95 = .ok (.iconst 1, 1) := by decide +kernel
theorem dX7_readWord_96 : decode cX7_readWord 96 = .ok (.iadd, 1) := by decide +kernel
theorem dX7_readWord_97 : decode cX7_readWord 97 = .ok (.putfield 40, 3) := by decide +kernel
theorem dX7_readWord_100 : decode cX7_readWord 100 = .ok (.goto (-85), 3) := by decide +kernel
theorem dX7_readWord_103 : decode cX7_readWord 103 = .ok (.iconst 0, 1) := by decide +kernel
theorem dX7_readWord_104 : decode cX7_readWord 104 = .ok (.istore_n 1, 1) := by decide +kernel
theorem dX7_readWord_105 : decode cX7_readWord 105 = .ok (.iload_n 1, 1) := by decide +kernel
theorem dX7_readWord_106 : decode cX7_readWord 106 = .ok (.bipush 26, 2) := by decide +kernel
theorem dX7_readWord_108 : decode cX7_readWord 108 = .ok (.if_icmp .ge 37, 3) := by decide +kernel
theorem dX7_readWord_111 : decode cX7_readWord 111 = .ok (.aload_n 0, 1) := by decide +kernel
theorem dX7_readWord_112 : decode cX7_readWord 112 = .ok (.getfield 70, 3) := by decide +kernel
theorem dX7_readWord_115 : decode cX7_readWord 115 = .ok (.bipush 8, 2) := by decide +kernel
theorem dX7_readWord_117 : decode cX7_readWord 117 = .ok (.if_icmp .gt 28, 3) := by decide +kernel
theorem dX7_readWord_120 : decode cX7_readWord 120 = .ok (.aload_n 0, 1) := by decide +kernel
theorem dX7_readWord_121 : decode cX7_readWord 121 = .ok (.getfield 9, 3) := by decide +kernel
theorem dX7_readWord_124 : decode cX7_readWord 124 = .ok (.iload_n 1, 1) := by decide +kernel
theorem dX7_readWord_125 : decode cX7_readWord 125 = .ok (.laload, 1) := by decide +kernel
theorem dX7_readWord_126 : decode cX7_readWord 126 = .ok (.aload_n 0, 1) := by decide +kernel
theorem dX7_readWord_127 : decode cX7_readWord 127 = .ok (.getfield 73, 3) := by decide +kernel
theorem dX7_readWord_130 : decode cX7_readWord 130 = .ok (.lcmp, 1) := by decide +kernel
theorem dX7_readWord_131 : decode cX7_readWord 131 = .ok (.ifCond .ne 8, 3) := by decide +kernel
theorem dX7_readWord_134 : decode cX7_readWord 134 = .ok (.aload_n 0, 1) := by decide +kernel
theorem dX7_readWord_135 : decode cX7_readWord 135 = .ok (.iload_n 1, 1) := by decide +kernel
theorem dX7_readWord_136 : decode cX7_readWord 136 = .ok (.putfield 55, 3) := by decide +kernel
theorem dX7_readWord_139 : decode cX7_readWord 139 = .ok (.iinc 1 1, 3) := by decide +kernel
theorem dX7_readWord_142 : decode cX7_readWord 142 = .ok (.goto (-37), 3) := by decide +kernel
theorem dX7_readWord_145 : decode cX7_readWord 145 = .ok (.return_, 1) := by decide +kernel
theorem dX7_readDigits_0 : decode cX7_readDigits 0 = .ok (.aload_n 0, 1) := by decide +kernel
theorem dX7_readDigits_1 : decode cX7_readDigits 1 = .ok (.iconst 0, 1) := by decide +kernel
theorem dX7_readDigits_2 : decode cX7_readDigits 2 = .ok (.putfield 77, 3) := by decide +kernel
theorem dX7_readDigits_5 : decode cX7_readDigits 5 = .ok (.iconst 0, 1) := by decide +kernel
theorem dX7_readDigits_6 : decode cX7_readDigits 6 = .ok (.istore_n 1, 1) := by decide +kernel
theorem dX7_readDigits_7 : decode cX7_readDigits 7 = .ok (.aload_n 0, 1) := by decide +kernel
theorem dX7_readDigits_8 : decode cX7_readDigits 8 = .ok (.getfield 40, 3) := by decide +kernel
theorem dX7_readDigits_11 : decode cX7_readDigits 11 = .ok (.aload_n 0, 1) := by decide +kernel
theorem dX7_readDigits_12 : decode cX7_readDigits 12 = .ok (.getfield 37, 3) := by decide +kernel
theorem dX7_readDigits_15 : decode cX7_readDigits 15 = .ok (.if_icmp .ge 71, 3) := by decide +kernel
theorem dX7_readDigits_18 : decode cX7_readDigits 18 = .ok (.aload_n 0, 1) := by decide +kernel
theorem dX7_readDigits_19 : decode cX7_readDigits 19 = .ok (.getfield 15, 3) := by decide +kernel
theorem dX7_readDigits_22 : decode cX7_readDigits 22 = .ok (.aload_n 0, 1) := by decide +kernel
theorem dX7_readDigits_23 : decode cX7_readDigits 23 = .ok (.getfield 40, 3) := by decide +kernel
theorem dX7_readDigits_26 : decode cX7_readDigits 26 = .ok (.baload, 1) := by decide +kernel
theorem dX7_readDigits_27 : decode cX7_readDigits 27 = .ok (.bipush 48, 2) := by decide +kernel
theorem dX7_readDigits_29 : decode cX7_readDigits 29 = .ok (.if_icmp .lt 57, 3) := by decide +kernel
theorem dX7_readDigits_32 : decode cX7_readDigits 32 = .ok (.aload_n 0, 1) := by decide +kernel
theorem dX7_readDigits_33 : decode cX7_readDigits 33 = .ok (.getfield 15, 3) := by decide +kernel
theorem dX7_readDigits_36 : decode cX7_readDigits 36 = .ok (.aload_n 0, 1) := by decide +kernel
theorem dX7_readDigits_37 : decode cX7_readDigits 37 = .ok (.getfield 40, 3) := by decide +kernel
theorem dX7_readDigits_40 : decode cX7_readDigits 40 = .ok (.baload, 1) := by decide +kernel
theorem dX7_readDigits_41 : decode cX7_readDigits 41 = .ok (.bipush 57, 2) := by decide +kernel
theorem dX7_readDigits_43 : decode cX7_readDigits 43 = .ok (.if_icmp .gt 43, 3) := by decide +kernel
theorem dX7_readDigits_46 : decode cX7_readDigits 46 = .ok (.iinc 1 1, 3) := by decide +kernel
theorem dX7_readDigits_49 : decode cX7_readDigits 49 = .ok (.aload_n 0, 1) := by decide +kernel
theorem dX7_readDigits_50 : decode cX7_readDigits 50 = .ok (.aload_n 0, 1) := by decide +kernel
theorem dX7_readDigits_51 : decode cX7_readDigits 51 = .ok (.getfield 77, 3) := by decide +kernel
theorem dX7_readDigits_54 : decode cX7_readDigits 54 = .ok (.bipush 10, 2) := by decide +kernel
theorem dX7_readDigits_56 : decode cX7_readDigits 56 = .ok (.imul, 1) := by decide +kernel
theorem dX7_readDigits_57 : decode cX7_readDigits 57 = .ok (.aload_n 0, 1) := by decide +kernel
theorem dX7_readDigits_58 : decode cX7_readDigits 58 = .ok (.getfield 15, 3) := by decide +kernel
theorem dX7_readDigits_61 : decode cX7_readDigits 61 = .ok (.aload_n 0, 1) := by decide +kernel
theorem dX7_readDigits_62 : decode cX7_readDigits 62 = .ok (.getfield 40, 3) := by decide +kernel
theorem dX7_readDigits_65 : decode cX7_readDigits 65 = .ok (.baload, 1) := by decide +kernel
theorem dX7_readDigits_66 : decode cX7_readDigits 66 = .ok (.iadd, 1) := by decide +kernel
theorem dX7_readDigits_67 : decode cX7_readDigits 67 = .ok (.bipush 48, 2) := by decide +kernel
theorem dX7_readDigits_69 : decode cX7_readDigits 69 = .ok (.isub, 1) := by decide +kernel
theorem dX7_readDigits_70 : decode cX7_readDigits 70 = .ok (.putfield 77, 3) := by decide +kernel
theorem dX7_readDigits_73 : decode cX7_readDigits 73 = .ok (.aload_n 0, 1) := by decide +kernel
theorem dX7_readDigits_74 : decode cX7_readDigits 74 = .ok (.dup, 1) := by decide +kernel
theorem dX7_readDigits_75 : decode cX7_readDigits 75 = .ok (.getfield 40, 3) := by decide +kernel
theorem dX7_readDigits_78 : decode cX7_readDigits 78 = .ok (.iconst 1, 1) := by decide +kernel
theorem dX7_readDigits_79 : decode cX7_readDigits 79 = .ok (.iadd, 1) := by decide +kernel
theorem dX7_readDigits_80 : decode cX7_readDigits 80 = .ok (.putfield 40, 3) := by decide +kernel
theorem dX7_readDigits_83 : decode cX7_readDigits 83 = .ok (.goto (-76), 3) := by decide +kernel
theorem dX7_readDigits_86 : decode cX7_readDigits 86 = .ok (.aload_n 0, 1) := by decide +kernel
theorem dX7_readDigits_87 : decode cX7_readDigits 87 = .ok (.iload_n 1, 1) := by decide +kernel
theorem dX7_readDigits_88 : decode cX7_readDigits 88 = .ok (.iconst 4, 1) := by decide +kernel
theorem dX7_readDigits_89 : decode cX7_readDigits 89 = .ok (.if_icmp .gt 7, 3) := by decide +kernel
theorem dX7_readDigits_92 : decode cX7_readDigits 92 = .ok (.iconst 3, 1) := by decide +kernel
theorem dX7_readDigits_93 : decode cX7_readDigits 93 = .ok (.goto 4, 3) := by decide +kernel
theorem dX7_readDigits_96 : decode cX7_readDigits 96 = .ok (.iconst 1, 1) := by decide +kernel
theorem dX7_readDigits_97 : decode cX7_readDigits 97 = .ok (.putfield 58, 3) := by decide +kernel
theorem dX7_readDigits_100 : decode cX7_readDigits 100 = .ok (.return_, 1) := by decide +kernel
theorem dX7_readSign_0 : decode cX7_readSign 0 = .ok (.aload_n 0, 1) := by decide +kernel
theorem dX7_readSign_1 : decode cX7_readSign 1 = .ok (.aload_n 0, 1) := by decide +kernel
theorem dX7_readSign_2 : decode cX7_readSign 2 = .ok (.getfield 15, 3) := by decide +kernel
theorem dX7_readSign_5 : decode cX7_readSign 5 = .ok (.aload_n 0, 1) := by decide +kernel
theorem dX7_readSign_6 : decode cX7_readSign 6 = .ok (.getfield 40, 3) := by decide +kernel
theorem dX7_readSign_9 : decode cX7_readSign 9 = .ok (.baload, 1) := by decide +kernel
theorem dX7_readSign_10 : decode cX7_readSign 10 = .ok (.putfield 80, 3) := by decide +kernel
theorem dX7_readSign_13 : decode cX7_readSign 13 = .ok (.aload_n 0, 1) := by decide +kernel
theorem dX7_readSign_14 : decode cX7_readSign 14 = .ok (.getfield 80, 3) := by decide +kernel
theorem dX7_readSign_17 : decode cX7_readSign 17 = .ok (.bipush 59, 2) := by decide +kernel
theorem dX7_readSign_19 : decode cX7_readSign 19 = .ok (.if_icmp .eq 30, 3) := by decide +kernel
theorem dX7_readSign_22 : decode cX7_readSign 22 = .ok (.aload_n 0, 1) := by decide +kernel
theorem dX7_readSign_23 : decode cX7_readSign 23 = .ok (.getfield 80, 3) := by decide +kernel
theorem dX7_readSign_26 : decode cX7_readSign 26 = .ok (.bipush 60, 2) := by decide +kernel
theorem dX7_readSign_28 : decode cX7_readSign 28 = .ok (.if_icmp .eq 21, 3) := by decide +kernel
theorem dX7_readSign_31 : decode cX7_readSign 31 = .ok (.aload_n 0, 1) := by decide +kernel
theorem dX7_readSign_32 : decode cX7_readSign 32 = .ok (.getfield 80, 3) := by decide +kernel
theorem dX7_readSign_35 : decode cX7_readSign 35 = .ok (.bipush 62, 2) := by decide +kernel
theorem dX7_readSign_37 : decode cX7_readSign 37 = .ok (.if_icmp .eq 12, 3) := by decide +kernel
theorem dX7_readSign_40 : decode cX7_readSign 40 = .ok (.aload_n 0, 1) := by decide +kernel
theorem dX7_readSign_41 : decode cX7_readSign 41 = .ok (.getfield 80, 3) := by decide +kernel
theorem dX7_readSign_44 : decode cX7_readSign 44 = .ok (.bipush 61, 2) := by decide +kernel
theorem dX7_readSign_46 : decode cX7_readSign 46 = .ok (.if_icmp .ne 7, 3) := by decide +kernel
theorem dX7_readSign_49 : decode cX7_readSign 49 = .ok (.iconst 1, 1) := by decide +kernel
theorem dX7_readSign_50 : decode cX7_readSign 50 = .ok (.goto 4, 3) := by decide +kernel
theorem dX7_readSign_53 : decode cX7_readSign 53 = .ok (.iconst 0, 1) := by decide +kernel
theorem dX7_readSign_54 : decode cX7_readSign 54 = .ok (.istore_n 1, 1) := by decide +kernel
theorem dX7_readSign_55 : decode cX7_readSign 55 = .ok (.aload_n 0, 1) := by decide +kernel
theorem dX7_readSign_56 : decode cX7_readSign 56 = .ok (.iload_n 1, 1) := by decide +kernel
theorem dX7_readSign_57 : decode cX7_readSign 57 = .ok (.ifCond .eq 7, 3) := by decide +kernel
theorem dX7_readSign_60 : decode cX7_readSign 60 = .ok (.iconst 4, 1) := by decide +kernel
theorem dX7_readSign_61 : decode cX7_readSign 61 = .ok (.goto 4, 3) := by decide +kernel
theorem dX7_readSign_64 : decode cX7_readSign 64 = .ok (.iconst 1, 1) := by decide +kernel
theorem dX7_readSign_65 : decode cX7_readSign 65 = .ok (.putfield 58, 3) := by decide +kernel
theorem dX7_readSign_68 : decode cX7_readSign 68 = .ok (.aload_n 0, 1) := by decide +kernel
theorem dX7_readSign_69 : decode cX7_readSign 69 = .ok (.dup, 1) := by decide +kernel
theorem dX7_readSign_70 : decode cX7_readSign 70 = .ok (.getfield 40, 3) := by decide +kernel
theorem dX7_readSign_73 : decode cX7_readSign 73 = .ok (.iconst 1, 1) := by decide +kernel
theorem dX7_readSign_74 : decode cX7_readSign 74 = .ok (.iadd, 1) := by decide +kernel
theorem dX7_readSign_75 : decode cX7_readSign 75 = .ok (.putfield 40, 3) := by decide +kernel
theorem dX7_readSign_78 : decode cX7_readSign 78 = .ok (.return_, 1) := by decide +kernel
theorem dX7_refuse_0 : decode cX7_refuse 0 = .ok (.aload_n 0, 1) := by decide +kernel
theorem dX7_refuse_1 : decode cX7_refuse 1 = .ok (.aload_n 0, 1) := by decide +kernel
theorem dX7_refuse_2 : decode cX7_refuse 2 = .ok (.getfield 58, 3) := by decide +kernel
theorem dX7_refuse_5 : decode cX7_refuse 5 = .ok (.iconst 1, 1) := by decide +kernel
theorem dX7_refuse_6 : decode cX7_refuse 6 = .ok (.if_icmp .ne 7, 3) := by decide +kernel
theorem dX7_refuse_9 : decode cX7_refuse 9 = .ok (.iconst 1, 1) := by decide +kernel
theorem dX7_refuse_10 : decode cX7_refuse 10 = .ok (.goto 4, 3) := by decide +kernel
theorem dX7_refuse_13 : decode cX7_refuse 13 = .ok (.iload_n 1, 1) := by decide +kernel
theorem dX7_refuse_14 : decode cX7_refuse 14 = .ok (.putfield 43, 3) := by decide +kernel
theorem dX7_refuse_17 : decode cX7_refuse 17 = .ok (.aload_n 0, 1) := by decide +kernel
theorem dX7_refuse_18 : decode cX7_refuse 18 = .ok (.aload_n 0, 1) := by decide +kernel
theorem dX7_refuse_19 : decode cX7_refuse 19 = .ok (.getfield 52, 3) := by decide +kernel
theorem dX7_refuse_22 : decode cX7_refuse 22 = .ok (.putfield 46, 3) := by decide +kernel
theorem dX7_refuse_25 : decode cX7_refuse 25 = .ok (.iconst 0, 1) := by decide +kernel
theorem dX7_refuse_26 : decode cX7_refuse 26 = .ok (.ireturn, 1) := by decide +kernel
theorem dX7_takeWord_0 : decode cX7_takeWord 0 = .ok (.aload_n 0, 1) := by decide +kernel
theorem dX7_takeWord_1 : decode cX7_takeWord 1 = .ok (.getfield 55, 3) := by decide +kernel
theorem dX7_takeWord_4 : decode cX7_takeWord 4 = .ok (.iload_n 1, 1) := by decide +kernel
theorem dX7_takeWord_5 : decode cX7_takeWord 5 = .ok (.if_icmp .eq 9, 3) := by decide +kernel
theorem dX7_takeWord_8 : decode cX7_takeWord 8 = .ok (.aload_n 0, 1) := by decide +kernel
theorem dX7_takeWord_9 : decode cX7_takeWord 9 = .ok (.iconst 2, 1) := by decide +kernel
theorem dX7_takeWord_10 : decode cX7_takeWord 10 = .ok (.invokevirtual 83, 3) := by decide +kernel
theorem dX7_takeWord_13 : decode cX7_takeWord 13 = .ok (.ireturn, 1) := by decide +kernel
theorem dX7_takeWord_14 : decode cX7_takeWord 14 = .ok (.aload_n 0, 1) := by decide +kernel
theorem dX7_takeWord_15 : decode cX7_takeWord 15 = .ok (.invokevirtual 49, 3) := by decide +kernel
theorem dX7_takeWord_18 : decode cX7_takeWord 18 = .ok (.iconst 1, 1) := by decide +kernel
theorem dX7_takeWord_19 : decode cX7_takeWord 19 = .ok (.ireturn, 1) := by decide +kernel
theorem dX7_takeSemicolon_0 : decode cX7_takeSemicolon 0 = .ok (.aload_n 0, 1) := by decide +kernel
theorem dX7_takeSemicolon_1 : decode cX7_takeSemicolon 1 = .ok (.getfield 58, 3) := by decide +kernel
theorem dX7_takeSemicolon_4 : decode cX7_takeSemicolon 4 = .ok (.iconst 4, 1) := by decide +kernel
theorem dX7_takeSemicolon_5 : decode cX7_takeSemicolon 5 = .ok (.if_icmp .ne 12, 3) := by decide +kernel
theorem dX7_takeSemicolon_8 : decode cX7_takeSemicolon 8 = .ok (.aload_n 0, 1) := by decide +kernel
theorem dX7_takeSemicolon_9 : decode cX7_takeSemicolon 9 = .ok (.getfield 80, 3) := by decide +kernel
theorem dX7_takeSemicolon_12 : decode cX7_takeSemicolon 12 = .ok (.bipush 59, 2) := by decide +kernel
theorem dX7_takeSemicolon_14 : decode cX7_takeSemicolon 14 = .ok (.if_icmp .eq 9, 3) := by decide +kernel
theorem dX7_takeSemicolon_17 : decode cX7_takeSemicolon 17 = .ok (.aload_n 0, 1) := by decide +kernel
theorem dX7_takeSemicolon_18 : decode cX7_takeSemicolon 18 = .ok (.iconst 2, 1) := by decide +kernel
theorem dX7_takeSemicolon_19 : decode cX7_takeSemicolon 19 = .ok (.invokevirtual 83, 3) := by decide +kernel
theorem dX7_takeSemicolon_22 : decode cX7_takeSemicolon 22 = .ok (.ireturn, 1) := by decide +kernel
theorem dX7_takeSemicolon_23 : decode cX7_takeSemicolon 23 = .ok (.aload_n 0, 1) := by decide +kernel
theorem dX7_takeSemicolon_24 : decode cX7_takeSemicolon 24 = .ok (.invokevirtual 49, 3) := by decide +kernel
theorem dX7_takeSemicolon_27 : decode cX7_takeSemicolon 27 = .ok (.iconst 1, 1) := by decide +kernel
theorem dX7_takeSemicolon_28 : decode cX7_takeSemicolon 28 = .ok (.ireturn, 1) := by decide +kernel
theorem dX7_takeCompares_0 : decode cX7_takeCompares 0 = .ok (.aload_n 0, 1) := by decide +kernel
theorem dX7_takeCompares_1 : decode cX7_takeCompares 1 = .ok (.getfield 58, 3) := by decide +kernel
theorem dX7_takeCompares_4 : decode cX7_takeCompares 4 = .ok (.iconst 4, 1) := by decide +kernel
theorem dX7_takeCompares_5 : decode cX7_takeCompares 5 = .ok (.if_icmp .ne 12, 3) := by decide +kernel
theorem dX7_takeCompares_8 : decode cX7_takeCompares 8 = .ok (.aload_n 0, 1) := by decide +kernel
theorem dX7_takeCompares_9 : decode cX7_takeCompares 9 = .ok (.getfield 80, 3) := by decide +kernel
theorem dX7_takeCompares_12 : decode cX7_takeCompares 12 = .ok (.bipush 59, 2) := by decide +kernel
theorem dX7_takeCompares_14 : decode cX7_takeCompares 14 = .ok (.if_icmp .ne 9, 3) := by decide +kernel
theorem dX7_takeCompares_17 : decode cX7_takeCompares 17 = .ok (.aload_n 0, 1) := by decide +kernel
theorem dX7_takeCompares_18 : decode cX7_takeCompares 18 = .ok (.iconst 2, 1) := by decide +kernel
theorem dX7_takeCompares_19 : decode cX7_takeCompares 19 = .ok (.invokevirtual 83, 3) := by decide +kernel
theorem dX7_takeCompares_22 : decode cX7_takeCompares 22 = .ok (.ireturn, 1) := by decide +kernel
theorem dX7_takeCompares_23 : decode cX7_takeCompares 23 = .ok (.aload_n 0, 1) := by decide +kernel
theorem dX7_takeCompares_24 : decode cX7_takeCompares 24 = .ok (.aload_n 0, 1) := by decide +kernel
theorem dX7_takeCompares_25 : decode cX7_takeCompares 25 = .ok (.getfield 80, 3) := by decide +kernel
theorem dX7_takeCompares_28 : decode cX7_takeCompares 28 = .ok (.putfield 87, 3) := by decide +kernel
theorem dX7_takeCompares_31 : decode cX7_takeCompares 31 = .ok (.aload_n 0, 1) := by decide +kernel
theorem dX7_takeCompares_32 : decode cX7_takeCompares 32 = .ok (.invokevirtual 49, 3) := by decide +kernel
theorem dX7_takeCompares_35 : decode cX7_takeCompares 35 = .ok (.iconst 1, 1) := by decide +kernel
theorem dX7_takeCompares_36 : decode cX7_takeCompares 36 = .ok (.ireturn, 1) := by decide +kernel
theorem dX7_takeNumber_0 : decode cX7_takeNumber 0 = .ok (.aload_n 0, 1) := by decide +kernel
theorem dX7_takeNumber_1 : decode cX7_takeNumber 1 = .ok (.getfield 58, 3) := by decide +kernel
theorem dX7_takeNumber_4 : decode cX7_takeNumber 4 = .ok (.iconst 3, 1) := by decide +kernel
theorem dX7_takeNumber_5 : decode cX7_takeNumber 5 = .ok (.if_icmp .eq 9, 3) := by decide +kernel
theorem dX7_takeNumber_8 : decode cX7_takeNumber 8 = .ok (.aload_n 0, 1) := by decide +kernel
theorem dX7_takeNumber_9 : decode cX7_takeNumber 9 = .ok (.iconst 2, 1) := by decide +kernel
theorem dX7_takeNumber_10 : decode cX7_takeNumber 10 = .ok (.invokevirtual 83, 3) := by decide +kernel
theorem dX7_takeNumber_13 : decode cX7_takeNumber 13 = .ok (.ireturn, 1) := by decide +kernel
theorem dX7_takeNumber_14 : decode cX7_takeNumber 14 = .ok (.aload_n 0, 1) := by decide +kernel
theorem dX7_takeNumber_15 : decode cX7_takeNumber 15 = .ok (.getfield 77, 3) := by decide +kernel
theorem dX7_takeNumber_18 : decode cX7_takeNumber 18 = .ok (.iload_n 1, 1) := by decide +kernel
theorem dX7_takeNumber_19 : decode cX7_takeNumber 19 = .ok (.if_icmp .lt 11, 3) := by decide +kernel
theorem dX7_takeNumber_22 : decode cX7_takeNumber 22 = .ok (.aload_n 0, 1) := by decide +kernel
theorem dX7_takeNumber_23 : decode cX7_takeNumber 23 = .ok (.getfield 77, 3) := by decide +kernel
theorem dX7_takeNumber_26 : decode cX7_takeNumber 26 = .ok (.iload_n 2, 1) := by decide +kernel
theorem dX7_takeNumber_27 : decode cX7_takeNumber 27 = .ok (.if_icmp .le 9, 3) := by decide +kernel
theorem dX7_takeNumber_30 : decode cX7_takeNumber 30 = .ok (.aload_n 0, 1) := by decide +kernel
theorem dX7_takeNumber_31 : decode cX7_takeNumber 31 = .ok (.iconst 4, 1) := by decide +kernel
theorem dX7_takeNumber_32 : decode cX7_takeNumber 32 = .ok (.invokevirtual 83, 3) := by decide +kernel
theorem dX7_takeNumber_35 : decode cX7_takeNumber 35 = .ok (.ireturn, 1) := by decide +kernel
theorem dX7_takeNumber_36 : decode cX7_takeNumber 36 = .ok (.aload_n 0, 1) := by decide +kernel
theorem dX7_takeNumber_37 : decode cX7_takeNumber 37 = .ok (.aload_n 0, 1) := by decide +kernel
theorem dX7_takeNumber_38 : decode cX7_takeNumber 38 = .ok (.getfield 77, 3) := by decide +kernel
theorem dX7_takeNumber_41 : decode cX7_takeNumber 41 = .ok (.putfield 87, 3) := by decide +kernel
theorem dX7_takeNumber_44 : decode cX7_takeNumber 44 = .ok (.aload_n 0, 1) := by decide +kernel
theorem dX7_takeNumber_45 : decode cX7_takeNumber 45 = .ok (.invokevirtual 49, 3) := by decide +kernel
theorem dX7_takeNumber_48 : decode cX7_takeNumber 48 = .ok (.iconst 1, 1) := by decide +kernel
theorem dX7_takeNumber_49 : decode cX7_takeNumber 49 = .ok (.ireturn, 1) := by decide +kernel
