theorem dX12_watchAll_44 : decode cX12_watchAll 44 = .ok (.iload_n 3, 1) := by decide +kernel
theorem dX12_watchAll_45 : decode cX12_watchAll 45 = .ok (.iload 7, 2) := by decide +kernel
theorem dX12_watchAll_47 : decode cX12_watchAll 47 = .ok (.invokevirtual 381, 3) := by decide +kernel
theorem dX12_watchAll_50 : decode cX12_watchAll 50 = .ok (.ifCond .eq 21, 3) := by decide +kernel
theorem dX12_watchAll_53 : decode cX12_watchAll 53 = .ok (.aload_n 0, 1) := by decide +kernel
theorem dX12_watchAll_54 : decode cX12_watchAll 54 = .ok (.iload_n 1, 1) := by decide +kernel
theorem dX12_watchAll_55 : decode cX12_watchAll 55 = .ok (.iload 4, 2) := by decide +kernel
theorem dX12_watchAll_57 : decode cX12_watchAll 57 = .ok (.iload 5, 2) := by decide +kernel
theorem dX12_watchAll_59 : decode cX12_watchAll 59 = .ok (.iload 7, 2) := by decide +kernel
theorem dX12_watchAll_61 : decode cX12_watchAll 61 = .ok (.invokevirtual 421, 3) := by decide +kernel
theorem dX12_watchAll_64 : decode cX12_watchAll 64 = .ok (.ifCond .eq 7, 3) := by decide +kernel
theorem dX12_watchAll_67 : decode cX12_watchAll 67 = .ok (.iconst 1, 1) := by decide +kernel
theorem dX12_watchAll_68 : decode cX12_watchAll 68 = .ok (.goto 4, 3) := by decide +kernel
theorem dX12_watchAll_71 : decode cX12_watchAll 71 = .ok (.iconst 0, 1) := by decide +kernel
theorem dX12_watchAll_72 : decode cX12_watchAll 72 = .ok (.istore 6, 2) := by decide +kernel
theorem dX12_watchAll_74 : decode cX12_watchAll 74 = .ok (.iinc 7 1, 3) := by decide +kernel
theorem dX12_watchAll_77 : decode cX12_watchAll 77 = .ok (.goto (-50), 3) := by decide +kernel
theorem dX12_watchAll_80 : decode cX12_watchAll 80 = .ok (.iload 6, 2) := by decide +kernel
theorem dX12_watchAll_82 : decode cX12_watchAll 82 = .ok (.ifCond .ne 5, 3) := by decide +kernel
theorem dX12_watchAll_85 : decode cX12_watchAll 85 = .ok (.iconst 0, 1) := by decide +kernel
theorem dX12_watchAll_86 : decode cX12_watchAll 86 = .ok (.ireturn, 1) := by decide +kernel
theorem dX12_watchAll_87 : decode cX12_watchAll 87 = .ok (.iinc 5 1, 3) := by decide +kernel
theorem dX12_watchAll_90 : decode cX12_watchAll 90 = .ok (.goto (-75), 3) := by decide +kernel
theorem dX12_watchAll_93 : decode cX12_watchAll 93 = .ok (.iinc 4 1, 3) := by decide +kernel
theorem dX12_watchAll_96 : decode cX12_watchAll 96 = .ok (.goto (-93), 3) := by decide +kernel
theorem dX12_watchAll_99 : decode cX12_watchAll 99 = .ok (.iconst 1, 1) := by decide +kernel
theorem dX12_watchAll_100 : decode cX12_watchAll 100 = .ok (.ireturn, 1) := by decide +kernel
theorem dX12_watchers_0 : decode cX12_watchers 0 = .ok (.aload_n 0, 1) := by decide +kernel
theorem dX12_watchers_1 : decode cX12_watchers 1 = .ok (.iconst 0, 1) := by decide +kernel
theorem dX12_watchers_2 : decode cX12_watchers 2 = .ok (.putfield 81, 3) := by decide +kernel
theorem dX12_watchers_5 : decode cX12_watchers 5 = .ok (.aload_n 0, 1) := by decide +kernel
theorem dX12_watchers_6 : decode cX12_watchers 6 = .ok (.iconst 0, 1) := by decide +kernel
theorem dX12_watchers_7 : decode cX12_watchers 7 = .ok (.putfield 84, 3) := by decide +kernel
theorem dX12_watchers_10 : decode cX12_watchers 10 = .ok (.aload_n 0, 1) := by decide +kernel
theorem dX12_watchers_11 : decode cX12_watchers 11 = .ok (.iload_n 1, 1) := by decide +kernel
theorem dX12_watchers_12 : decode cX12_watchers 12 = .ok (.invokevirtual 336, 3) := by decide +kernel
theorem dX12_watchers_15 : decode cX12_watchers 15 = .ok (.ifCond .ne 9, 3) := by decide +kernel
theorem dX12_watchers_18 : decode cX12_watchers 18 = .ok (.aload_n 0, 1) := by decide +kernel
theorem dX12_watchers_19 : decode cX12_watchers 19 = .ok (.iconst 1, 1) := by decide +kernel
theorem dX12_watchers_20 : decode cX12_watchers 20 = .ok (.invokevirtual 316, 3) := by decide +kernel
theorem dX12_watchers_23 : decode cX12_watchers 23 = .ok (.ireturn, 1) := by decide +kernel
theorem dX12_watchers_24 : decode cX12_watchers 24 = .ok (.aload_n 0, 1) := by decide +kernel
theorem dX12_watchers_25 : decode cX12_watchers 25 = .ok (.getfield 17, 3) := by decide +kernel
theorem dX12_watchers_28 : decode cX12_watchers 28 = .ok (.iload_n 1, 1) := by decide +kernel
theorem dX12_watchers_29 : decode cX12_watchers 29 = .ok (.iaload, 1) := by decide +kernel
theorem dX12_watchers_30 : decode cX12_watchers 30 = .ok (.ifCond .ge 9, 3) := by decide +kernel
theorem dX12_watchers_33 : decode cX12_watchers 33 = .ok (.aload_n 0, 1) := by decide +kernel
theorem dX12_watchers_34 : decode cX12_watchers 34 = .ok (.iconst 3, 1) := by decide +kernel
theorem dX12_watchers_35 : decode cX12_watchers 35 = .ok (.invokevirtual 316, 3) := by decide +kernel
theorem dX12_watchers_38 : decode cX12_watchers 38 = .ok (.ireturn, 1) := by decide +kernel
theorem dX12_watchers_39 : decode cX12_watchers 39 = .ok (.iload_n 2, 1) := by decide +kernel
theorem dX12_watchers_40 : decode cX12_watchers 40 = .ok (.i2l, 1) := by decide +kernel
theorem dX12_watchers_41 : decode cX12_watchers 41 = .ok (.ldc2_w 314, 3) := by decide +kernel
theorem dX12_watchers_44 : decode cX12_watchers 44 = .ok (.ldc2_w 425, 3) := by decide +kernel
theorem dX12_watchers_47 : decode cX12_watchers 47 = .ok (.invokestatic 116, 3) := by decide +kernel
theorem dX12_watchers_50 : decode cX12_watchers 50 = .ok (.ifCond .ne 9, 3) := by decide +kernel
theorem dX12_watchers_53 : decode cX12_watchers 53 = .ok (.aload_n 0, 1) := by decide +kernel
theorem dX12_watchers_54 : decode cX12_watchers 54 = .ok (.iconst 5, 1) := by decide +kernel
theorem dX12_watchers_55 : decode cX12_watchers 55 = .ok (.invokevirtual 316, 3) := by decide +kernel
theorem dX12_watchers_58 : decode cX12_watchers 58 = .ok (.ireturn, 1) := by decide +kernel
theorem dX12_watchers_59 : decode cX12_watchers 59 = .ok (.aload_n 0, 1) := by decide +kernel
theorem dX12_watchers_60 : decode cX12_watchers 60 = .ok (.iload_n 1, 1) := by decide +kernel
theorem dX12_watchers_61 : decode cX12_watchers 61 = .ok (.iload_n 2, 1) := by decide +kernel
theorem dX12_watchers_62 : decode cX12_watchers 62 = .ok (.aload_n 0, 1) := by decide +kernel
theorem dX12_watchers_63 : decode cX12_watchers 63 = .ok (.invokevirtual 305, 3) := by decide +kernel
theorem dX12_watchers_66 : decode cX12_watchers 66 = .ok (.imul, 1) := by decide +kernel
theorem dX12_watchers_67 : decode cX12_watchers 67 = .ok (.invokevirtual 339, 3) := by decide +kernel
theorem dX12_watchers_70 : decode cX12_watchers 70 = .ok (.istore_n 3, 1) := by decide +kernel
theorem dX12_watchers_71 : decode cX12_watchers 71 = .ok (.iload_n 3, 1) := by decide +kernel
theorem dX12_watchers_72 : decode cX12_watchers 72 = .ok (.ifCond .le 9, 3) := by decide +kernel
theorem dX12_watchers_75 : decode cX12_watchers 75 = .ok (.aload_n 0, 1) := by decide +kernel
theorem dX12_watchers_76 : decode cX12_watchers 76 = .ok (.iload_n 3, 1) := by decide +kernel
theorem dX12_watchers_77 : decode cX12_watchers 77 = .ok (.invokevirtual 316, 3) := by decide +kernel
theorem dX12_watchers_80 : decode cX12_watchers 80 = .ok (.ireturn, 1) := by decide +kernel
theorem dX12_watchers_81 : decode cX12_watchers 81 = .ok (.iconst (-1), 1) := by decide +kernel
theorem dX12_watchers_82 : decode cX12_watchers 82 = .ok (.istore 4, 2) := by decide +kernel
theorem dX12_watchers_84 : decode cX12_watchers 84 = .ok (.iconst 0, 1) := by decide +kernel
theorem dX12_watchers_85 : decode cX12_watchers 85 = .ok (.istore 5, 2) := by decide +kernel
theorem dX12_watchers_87 : decode cX12_watchers 87 = .ok (.iload 5, 2) := by decide +kernel
theorem dX12_watchers_89 : decode cX12_watchers 89 = .ok (.iconst 1, 1) := by decide +kernel
theorem dX12_watchers_90 : decode cX12_watchers 90 = .ok (.aload_n 0, 1) := by decide +kernel
theorem dX12_watchers_91 : decode cX12_watchers 91 = .ok (.getfield 35, 3) := by decide +kernel
theorem dX12_watchers_94 : decode cX12_watchers 94 = .ok (.iconst 2, 1) := by decide +kernel
theorem dX12_watchers_95 : decode cX12_watchers 95 = .ok (.iaload, 1) := by decide +kernel
theorem dX12_watchers_96 : decode cX12_watchers 96 = .ok (.ishl, 1) := by decide +kernel
theorem dX12_watchers_97 : decode cX12_watchers 97 = .ok (.if_icmp .ge 42, 3) := by decide +kernel
theorem dX12_watchers_100 : decode cX12_watchers 100 = .ok (.iload 4, 2) := by decide +kernel
theorem dX12_watchers_102 : decode cX12_watchers 102 = .ok (.ifCond .lt 16, 3) := by decide +kernel
theorem dX12_watchers_105 : decode cX12_watchers 105 = .ok (.iload 5, 2) := by decide +kernel
theorem dX12_watchers_107 : decode cX12_watchers 107 = .ok (.invokestatic 387, 3) := by decide +kernel
theorem dX12_watchers_110 : decode cX12_watchers 110 = .ok (.iload 4, 2) := by decide +kernel
theorem dX12_watchers_112 : decode cX12_watchers 112 = .ok (.invokestatic 387, 3) := by decide +kernel
theorem dX12_watchers_115 : decode cX12_watchers 115 = .ok (.if_icmp .ge 18, 3) := by decide +kernel
theorem dX12_watchers_118 : decode cX12_watchers 118 = .ok (.aload_n 0, 1) := by decide +kernel
theorem dX12_watchers_119 : decode cX12_watchers 119 = .ok (.iload_n 1, 1) := by decide +kernel
theorem dX12_watchers_120 : decode cX12_watchers 120 = .ok (.iload_n 2, 1) := by decide +kernel
theorem dX12_watchers_121 : decode cX12_watchers 121 = .ok (.iload 5, 2) := by decide +kernel
theorem dX12_watchers_123 : decode cX12_watchers 123 = .ok (.invokevirtual 427, 3) := by decide +kernel
theorem dX12_watchers_126 : decode cX12_watchers 126 = .ok (.ifCond .eq 7, 3) := by decide +kernel
theorem dX12_watchers_129 : decode cX12_watchers 129 = .ok (.iload 5, 2) := by decide +kernel
theorem dX12_watchers_131 : decode cX12_watchers 131 = .ok (.istore 4, 2) := by decide +kernel
theorem dX12_watchers_133 : decode cX12_watchers 133 = .ok (.iinc 5 1, 3) := by decide +kernel
theorem dX12_watchers_136 : decode cX12_watchers 136 = .ok (.goto (-49), 3) := by decide +kernel
theorem dX12_watchers_139 : decode cX12_watchers 139 = .ok (.iload 4, 2) := by decide +kernel
theorem dX12_watchers_141 : decode cX12_watchers 141 = .ok (.ifCond .ge 12, 3) := by decide +kernel
theorem dX12_watchers_144 : decode cX12_watchers 144 = .ok (.aload_n 0, 1) := by decide +kernel
theorem dX12_watchers_145 : decode cX12_watchers 145 = .ok (.bipush 9, 2) := by decide +kernel
theorem dX12_watchers_147 : decode cX12_watchers 147 = .ok (.invokevirtual 316, 3) := by decide +kernel
theorem dX12_watchers_150 : decode cX12_watchers 150 = .ok (.goto 5, 3) := by decide +kernel
theorem dX12_watchers_153 : decode cX12_watchers 153 = .ok (.iload 4, 2) := by decide +kernel
theorem dX12_watchers_155 : decode cX12_watchers 155 = .ok (.ireturn, 1) := by decide +kernel
theorem dX12_tenth_0 : decode cX12_tenth 0 = .ok (.aload_n 0, 1) := by decide +kernel
theorem dX12_tenth_1 : decode cX12_tenth 1 = .ok (.iconst 0, 1) := by decide +kernel
theorem dX12_tenth_2 : decode cX12_tenth 2 = .ok (.putfield 81, 3) := by decide +kernel
theorem dX12_tenth_5 : decode cX12_tenth 5 = .ok (.aload_n 0, 1) := by decide +kernel
theorem dX12_tenth_6 : decode cX12_tenth 6 = .ok (.iconst 0, 1) := by decide +kernel
theorem dX12_tenth_7 : decode cX12_tenth 7 = .ok (.putfield 84, 3) := by decide +kernel
theorem dX12_tenth_10 : decode cX12_tenth 10 = .ok (.aload_n 0, 1) := by decide +kernel
theorem dX12_tenth_11 : decode cX12_tenth 11 = .ok (.iload_n 1, 1) := by decide +kernel
theorem dX12_tenth_12 : decode cX12_tenth 12 = .ok (.invokevirtual 336, 3) := by decide +kernel
theorem dX12_tenth_15 : decode cX12_tenth 15 = .ok (.ifCond .ne 9, 3) := by decide +kernel
theorem dX12_tenth_18 : decode cX12_tenth 18 = .ok (.aload_n 0, 1) := by decide +kernel
theorem dX12_tenth_19 : decode cX12_tenth 19 = .ok (.iconst 1, 1) := by decide +kernel
theorem dX12_tenth_20 : decode cX12_tenth 20 = .ok (.invokevirtual 316, 3) := by decide +kernel
theorem dX12_tenth_23 : decode cX12_tenth 23 = .ok (.ireturn, 1) := by decide +kernel
theorem dX12_tenth_24 : decode cX12_tenth 24 = .ok (.aload_n 0, 1) := by decide +kernel
theorem dX12_tenth_25 : decode cX12_tenth 25 = .ok (.getfield 17, 3) := by decide +kernel
theorem dX12_tenth_28 : decode cX12_tenth 28 = .ok (.iload_n 1, 1) := by decide +kernel
theorem dX12_tenth_29 : decode cX12_tenth 29 = .ok (.iaload, 1) := by decide +kernel
theorem dX12_tenth_30 : decode cX12_tenth 30 = .ok (.ifCond .ge 9, 3) := by decide +kernel
theorem dX12_tenth_33 : decode cX12_tenth 33 = .ok (.aload_n 0, 1) := by decide +kernel
theorem dX12_tenth_34 : decode cX12_tenth 34 = .ok (.iconst 3, 1) := by decide +kernel
theorem dX12_tenth_35 : decode cX12_tenth 35 = .ok (.invokevirtual 316, 3) := by decide +kernel
theorem dX12_tenth_38 : decode cX12_tenth 38 = .ok (.ireturn, 1) := by decide +kernel
theorem dX12_tenth_39 : decode cX12_tenth 39 = .ok (.iload_n 2, 1) := by decide +kernel
theorem dX12_tenth_40 : decode cX12_tenth 40 = .ok (.i2l, 1) := by decide +kernel
theorem dX12_tenth_41 : decode cX12_tenth 41 = .ok (.lconst 1, 1) := by decide +kernel
theorem dX12_tenth_42 : decode cX12_tenth 42 = .ok (.ldc2_w 431, 3) := by decide +kernel
theorem dX12_tenth_45 : decode cX12_tenth 45 = .ok (.invokestatic 116, 3) := by decide +kernel
theorem dX12_tenth_48 : decode cX12_tenth 48 = .ok (.ifCond .ne 9, 3) := by decide +kernel
theorem dX12_tenth_51 : decode cX12_tenth 51 = .ok (.aload_n 0, 1) := by decide +kernel
theorem dX12_tenth_52 : decode cX12_tenth 52 = .ok (.iconst 5, 1) := by decide +kernel
theorem dX12_tenth_53 : decode cX12_tenth 53 = .ok (.invokevirtual 316, 3) := by decide +kernel
theorem dX12_tenth_56 : decode cX12_tenth 56 = .ok (.ireturn, 1) := by decide +kernel
theorem dX12_tenth_57 : decode cX12_tenth 57 = .ok (.aload_n 0, 1) := by decide +kernel
theorem dX12_tenth_58 : decode cX12_tenth 58 = .ok (.iload_n 1, 1) := by decide +kernel
theorem dX12_tenth_59 : decode cX12_tenth 59 = .ok (.iload_n 2, 1) := by decide +kernel
theorem dX12_tenth_60 : decode cX12_tenth 60 = .ok (.invokevirtual 339, 3) := by decide +kernel
theorem dX12_tenth_63 : decode cX12_tenth 63 = .ok (.istore_n 3, 1) := by decide +kernel
theorem dX12_tenth_64 : decode cX12_tenth 64 = .ok (.iload_n 3, 1) := by decide +kernel
theorem dX12_tenth_65 : decode cX12_tenth 65 = .ok (.ifCond .le 9, 3) := by decide +kernel
theorem dX12_tenth_68 : decode cX12_tenth 68 = .ok (.aload_n 0, 1) := by decide +kernel
theorem dX12_tenth_69 : decode cX12_tenth 69 = .ok (.iload_n 3, 1) := by decide +kernel
theorem dX12_tenth_70 : decode cX12_tenth 70 = .ok (.invokevirtual 316, 3) := by decide +kernel
theorem dX12_tenth_73 : decode cX12_tenth 73 = .ok (.ireturn, 1) := by decide +kernel
theorem dX12_tenth_74 : decode cX12_tenth 74 = .ok (.iconst 0, 1) := by decide +kernel
theorem dX12_tenth_75 : decode cX12_tenth 75 = .ok (.istore 4, 2) := by decide +kernel
theorem dX12_tenth_77 : decode cX12_tenth 77 = .ok (.iconst 0, 1) := by decide +kernel
theorem dX12_tenth_78 : decode cX12_tenth 78 = .ok (.istore 5, 2) := by decide +kernel
theorem dX12_tenth_80 : decode cX12_tenth 80 = .ok (.iload 5, 2) := by decide +kernel
theorem dX12_tenth_82 : decode cX12_tenth 82 = .ok (.bipush 8, 2) := by decide +kernel
theorem dX12_tenth_84 : decode cX12_tenth 84 = .ok (.if_icmp .ge 110, 3) := by decide +kernel
theorem dX12_tenth_87 : decode cX12_tenth 87 = .ok (.aload_n 0, 1) := by decide +kernel
theorem dX12_tenth_88 : decode cX12_tenth 88 = .ok (.iload 5, 2) := by decide +kernel
theorem dX12_tenth_90 : decode cX12_tenth 90 = .ok (.aload_n 0, 1) := by decide +kernel
theorem dX12_tenth_91 : decode cX12_tenth 91 = .ok (.getfield 35, 3) := by decide +kernel
theorem dX12_tenth_94 : decode cX12_tenth 94 = .ok (.iconst 0, 1) := by decide +kernel
theorem dX12_tenth_95 : decode cX12_tenth 95 = .ok (.iaload, 1) := by decide +kernel
theorem dX12_tenth_96 : decode cX12_tenth 96 = .ok (.aload_n 0, 1) := by decide +kernel
theorem dX12_tenth_97 : decode cX12_tenth 97 = .ok (.getfield 35, 3) := by decide +kernel
theorem dX12_tenth_100 : decode cX12_tenth 100 = .ok (.iconst 1, 1) := by decide +kernel
theorem dX12_tenth_101 : decode cX12_tenth 101 = .ok (.iaload, 1) := by decide +kernel
theorem dX12_tenth_102 : decode cX12_tenth 102 = .ok (.invokevirtual 269, 3) := by decide +kernel
theorem dX12_tenth_105 : decode cX12_tenth 105 = .ok (.iload_n 2, 1) := by decide +kernel
theorem dX12_tenth_106 : decode cX12_tenth 106 = .ok (.if_icmp .ne 14, 3) := by decide +kernel
theorem dX12_tenth_109 : decode cX12_tenth 109 = .ok (.aload_n 0, 1) := by decide +kernel
theorem dX12_tenth_110 : decode cX12_tenth 110 = .ok (.invokevirtual 305, 3) := by decide +kernel
theorem dX12_tenth_113 : decode cX12_tenth 113 = .ok (.ifCond .le 7, 3) := by decide +kernel
theorem dX12_tenth_116 : decode cX12_tenth 116 = .ok (.iconst 1, 1) := by decide +kernel
theorem dX12_tenth_117 : decode cX12_tenth 117 = .ok (.goto 4, 3) := by decide +kernel
theorem dX12_tenth_120 : decode cX12_tenth 120 = .ok (.iconst 0, 1) := by decide +kernel
theorem dX12_tenth_121 : decode cX12_tenth 121 = .ok (.istore 6, 2) := by decide +kernel
theorem dX12_tenth_123 : decode cX12_tenth 123 = .ok (.iconst 0, 1) := by decide +kernel
theorem dX12_tenth_124 : decode cX12_tenth 124 = .ok (.istore 7, 2) := by decide +kernel
theorem dX12_tenth_126 : decode cX12_tenth 126 = .ok (.iload 7, 2) := by decide +kernel
theorem dX12_tenth_128 : decode cX12_tenth 128 = .ok (.iload_n 2, 1) := by decide +kernel
theorem dX12_tenth_129 : decode cX12_tenth 129 = .ok (.if_icmp .ge 41, 3) := by decide +kernel
theorem dX12_tenth_132 : decode cX12_tenth 132 = .ok (.iload 6, 2) := by decide +kernel
theorem dX12_tenth_134 : decode cX12_tenth 134 = .ok (.ifCond .eq 36, 3) := by decide +kernel
theorem dX12_tenth_137 : decode cX12_tenth 137 = .ok (.aload_n 0, 1) := by decide +kernel
theorem dX12_tenth_138 : decode cX12_tenth 138 = .ok (.iload 5, 2) := by decide +kernel
theorem dX12_tenth_140 : decode cX12_tenth 140 = .ok (.iload 7, 2) := by decide +kernel
theorem dX12_tenth_142 : decode cX12_tenth 142 = .ok (.invokevirtual 345, 3) := by decide +kernel
theorem dX12_tenth_145 : decode cX12_tenth 145 = .ok (.i2l, 1) := by decide +kernel
theorem dX12_tenth_146 : decode cX12_tenth 146 = .ok (.aload_n 0, 1) := by decide +kernel
theorem dX12_tenth_147 : decode cX12_tenth 147 = .ok (.iload_n 1, 1) := by decide +kernel
theorem dX12_tenth_148 : decode cX12_tenth 148 = .ok (.iload 7, 2) := by decide +kernel
theorem dX12_tenth_150 : decode cX12_tenth 150 = .ok (.invokevirtual 332, 3) := by decide +kernel
theorem dX12_tenth_153 : decode cX12_tenth 153 = .ok (.lcmp, 1) := by decide +kernel
theorem dX12_tenth_154 : decode cX12_tenth 154 = .ok (.ifCond .ne 7, 3) := by decide +kernel
theorem dX12_tenth_157 : decode cX12_tenth 157 = .ok (.iconst 1, 1) := by decide +kernel
theorem dX12_tenth_158 : decode cX12_tenth 158 = .ok (.goto 4, 3) := by decide +kernel
theorem dX12_tenth_161 : decode cX12_tenth 161 = .ok (.iconst 0, 1) := by decide +kernel
theorem dX12_tenth_162 : decode cX12_tenth 162 = .ok (.istore 6, 2) := by decide +kernel
theorem dX12_tenth_164 : decode cX12_tenth 164 = .ok (.iinc 7 1, 3) := by decide +kernel
theorem dX12_tenth_167 : decode cX12_tenth 167 = .ok (.goto (-41), 3) := by decide +kernel
theorem dX12_tenth_170 : decode cX12_tenth 170 = .ok (.iload 4, 2) := by decide +kernel
theorem dX12_tenth_172 : decode cX12_tenth 172 = .ok (.iload 6, 2) := by decide +kernel
theorem dX12_tenth_174 : decode cX12_tenth 174 = .ok (.ifCond .eq 10, 3) := by decide +kernel
theorem dX12_tenth_177 : decode cX12_tenth 177 = .ok (.iconst 1, 1) := by decide +kernel
theorem dX12_tenth_178 : decode cX12_tenth 178 = .ok (.iload 5, 2) := by decide +kernel
theorem dX12_tenth_180 : decode cX12_tenth 180 = .ok (.ishl, 1) := by decide +kernel
theorem dX12_tenth_181 : decode cX12_tenth 181 = .ok (.goto 4, 3) := by decide +kernel
theorem dX12_tenth_184 : decode cX12_tenth 184 = .ok (.iconst 0, 1) := by decide +kernel
theorem dX12_tenth_185 : decode cX12_tenth 185 = .ok (.ior, 1) := by decide +kernel
theorem dX12_tenth_186 : decode cX12_tenth 186 = .ok (.istore 4, 2) := by decide +kernel
theorem dX12_tenth_188 : decode cX12_tenth 188 = .ok (.iinc 5 1, 3) := by decide +kernel
theorem dX12_tenth_191 : decode cX12_tenth 191 = .ok (.goto (-111), 3) := by decide +kernel
theorem dX12_tenth_194 : decode cX12_tenth 194 = .ok (.iload 4, 2) := by decide +kernel
theorem dX12_tenth_196 : decode cX12_tenth 196 = .ok (.ireturn, 1) := by decide +kernel
theorem dX12_isAsSeen_0 : decode cX12_isAsSeen 0 = .ok (.iconst 0, 1) := by decide +kernel
theorem dX12_isAsSeen_1 : decode cX12_isAsSeen 1 = .ok (.istore_n 2, 1) := by decide +kernel
theorem dX12_isAsSeen_2 : decode cX12_isAsSeen 2 = .ok (.iload_n 2, 1) := by decide +kernel
theorem dX12_isAsSeen_3 : decode cX12_isAsSeen 3 = .ok (.aload_n 0, 1) := by decide +kernel
theorem dX12_isAsSeen_4 : decode cX12_isAsSeen 4 = .ok (.getfield 433, 3) := by decide +kernel
theorem dX12_isAsSeen_7 : decode cX12_isAsSeen 7 = .ok (.if_icmp .ge 58, 3) := by decide +kernel
theorem dX12_isAsSeen_10 : decode cX12_isAsSeen 10 = .ok (.aload_n 0, 1) := by decide +kernel
theorem dX12_isAsSeen_11 : decode cX12_isAsSeen 11 = .ok (.getfield 35, 3) := by decide +kernel
theorem dX12_isAsSeen_14 : decode cX12_isAsSeen 14 = .ok (.sipush 144, 3) := by decide +kernel
theorem dX12_isAsSeen_17 : decode cX12_isAsSeen 17 = .ok (.aload_n 0, 1) := by decide +kernel
theorem dX12_isAsSeen_18 : decode cX12_isAsSeen 18 = .ok (.getfield 57, 3) := by decide +kernel
theorem dX12_isAsSeen_21 : decode cX12_isAsSeen 21 = .ok (.iload_n 2, 1) := by decide +kernel
theorem dX12_isAsSeen_22 : decode cX12_isAsSeen 22 = .ok (.iaload, 1) := by decide +kernel
theorem dX12_isAsSeen_23 : decode cX12_isAsSeen 23 = .ok (.iadd, 1) := by decide +kernel
theorem dX12_isAsSeen_24 : decode cX12_isAsSeen 24 = .ok (.aload_n 0, 1) := by decide +kernel
theorem dX12_isAsSeen_25 : decode cX12_isAsSeen 25 = .ok (.iload_n 1, 1) := by decide +kernel
theorem dX12_isAsSeen_26 : decode cX12_isAsSeen 26 = .ok (.iload_n 2, 1) := by decide +kernel
theorem dX12_isAsSeen_27 : decode cX12_isAsSeen 27 = .ok (.invokevirtual 381, 3) := by decide +kernel
theorem dX12_isAsSeen_30 : decode cX12_isAsSeen 30 = .ok (.ifCond .eq 17, 3) := by decide +kernel
theorem dX12_isAsSeen_33 : decode cX12_isAsSeen 33 = .ok (.aload_n 0, 1) := by decide +kernel
theorem dX12_isAsSeen_34 : decode cX12_isAsSeen 34 = .ok (.getfield 63, 3) := by decide +kernel
theorem dX12_isAsSeen_37 : decode cX12_isAsSeen 37 = .ok (.aload_n 0, 1) := by decide +kernel
theorem dX12_isAsSeen_38 : decode cX12_isAsSeen 38 = .ok (.getfield 57, 3) := by decide +kernel
theorem dX12_isAsSeen_41 : decode cX12_isAsSeen 41 = .ok (.iload_n 2, 1) := by decide +kernel
theorem dX12_isAsSeen_42 : decode cX12_isAsSeen 42 = .ok (.iaload, 1) := by decide +kernel
theorem dX12_isAsSeen_43 : decode cX12_isAsSeen 43 = .ok (.iaload, 1) := by decide +kernel
theorem dX12_isAsSeen_44 : decode cX12_isAsSeen 44 = .ok (.goto 14, 3) := by decide +kernel
theorem dX12_isAsSeen_47 : decode cX12_isAsSeen 47 = .ok (.aload_n 0, 1) := by decide +kernel
theorem dX12_isAsSeen_48 : decode cX12_isAsSeen 48 = .ok (.getfield 72, 3) := by decide +kernel
theorem dX12_isAsSeen_51 : decode cX12_isAsSeen 51 = .ok (.aload_n 0, 1) := by decide +kernel
theorem dX12_isAsSeen_52 : decode cX12_isAsSeen 52 = .ok (.getfield 57, 3) := by decide +kernel
theorem dX12_isAsSeen_55 : decode cX12_isAsSeen 55 = .ok (.iload_n 2, 1) := by decide +kernel
theorem dX12_isAsSeen_56 : decode cX12_isAsSeen 56 = .ok (.iaload, 1) := by decide +kernel
theorem dX12_isAsSeen_57 : decode cX12_isAsSeen 57 = .ok (.iaload, 1) := by decide +kernel
theorem dX12_isAsSeen_58 : decode cX12_isAsSeen 58 = .ok (.iastore, 1) := by decide +kernel
theorem dX12_isAsSeen_59 : decode cX12_isAsSeen 59 = .ok (.iinc 2 1, 3) := by decide +kernel
theorem dX12_isAsSeen_62 : decode cX12_isAsSeen 62 = .ok (.goto (-60), 3) := by decide +kernel
theorem dX12_isAsSeen_65 : decode cX12_isAsSeen 65 = .ok (.iconst 1, 1) := by decide +kernel
theorem dX12_isAsSeen_66 : decode cX12_isAsSeen 66 = .ok (.istore_n 2, 1) := by decide +kernel
theorem dX12_isAsSeen_67 : decode cX12_isAsSeen 67 = .ok (.iconst 0, 1) := by decide +kernel
theorem dX12_isAsSeen_68 : decode cX12_isAsSeen 68 = .ok (.istore_n 3, 1) := by decide +kernel
theorem dX12_isAsSeen_69 : decode cX12_isAsSeen 69 = .ok (.iload_n 3, 1) := by decide +kernel
theorem dX12_isAsSeen_70 : decode cX12_isAsSeen 70 = .ok (.aload_n 0, 1) := by decide +kernel
theorem dX12_isAsSeen_71 : decode cX12_isAsSeen 71 = .ok (.getfield 35, 3) := by decide +kernel
theorem dX12_isAsSeen_74 : decode cX12_isAsSeen 74 = .ok (.iconst 2, 1) := by decide +kernel
theorem dX12_isAsSeen_75 : decode cX12_isAsSeen 75 = .ok (.iaload, 1) := by decide +kernel
theorem dX12_isAsSeen_76 : decode cX12_isAsSeen 76 = .ok (.if_icmp .ge 72, 3) := by decide +kernel
theorem dX12_isAsSeen_79 : decode cX12_isAsSeen 79 = .ok (.iload_n 2, 1) := by decide +kernel
theorem dX12_isAsSeen_80 : decode cX12_isAsSeen 80 = .ok (.ifCond .eq 68, 3) := by decide +kernel
theorem dX12_isAsSeen_83 : decode cX12_isAsSeen 83 = .ok (.iconst 0, 1) := by decide +kernel
theorem dX12_isAsSeen_84 : decode cX12_isAsSeen 84 = .ok (.istore 4, 2) := by decide +kernel
theorem dX12_isAsSeen_86 : decode cX12_isAsSeen 86 = .ok (.iload 4, 2) := by decide +kernel
theorem dX12_isAsSeen_88 : decode cX12_isAsSeen 88 = .ok (.aload_n 0, 1) := by decide +kernel
theorem dX12_isAsSeen_89 : decode cX12_isAsSeen 89 = .ok (.iload_n 3, 1) := by decide +kernel
theorem dX12_isAsSeen_90 : decode cX12_isAsSeen 90 = .ok (.invokevirtual 311, 3) := by decide +kernel
theorem dX12_isAsSeen_93 : decode cX12_isAsSeen 93 = .ok (.if_icmp .ge 49, 3) := by decide +kernel
theorem dX12_isAsSeen_96 : decode cX12_isAsSeen 96 = .ok (.iload_n 2, 1) := by decide +kernel
theorem dX12_isAsSeen_97 : decode cX12_isAsSeen 97 = .ok (.ifCond .eq 37, 3) := by decide +kernel
theorem dX12_isAsSeen_100 : decode cX12_isAsSeen 100 = .ok (.aload_n 0, 1) := by decide +kernel
theorem dX12_isAsSeen_101 : decode cX12_isAsSeen 101 = .ok (.aload_n 0, 1) := by decide +kernel
theorem dX12_isAsSeen_102 : decode cX12_isAsSeen 102 = .ok (.getfield 35, 3) := by decide +kernel
theorem dX12_isAsSeen_105 : decode cX12_isAsSeen 105 = .ok (.bipush 78, 2) := by decide +kernel
theorem dX12_isAsSeen_107 : decode cX12_isAsSeen 107 = .ok (.iload_n 3, 1) := by decide +kernel
theorem dX12_isAsSeen_108 : decode cX12_isAsSeen 108 = .ok (.iadd, 1) := by decide +kernel
theorem dX12_isAsSeen_109 : decode cX12_isAsSeen 109 = .ok (.iaload, 1) := by decide +kernel
theorem dX12_isAsSeen_110 : decode cX12_isAsSeen 110 = .ok (.iload 4, 2) := by decide +kernel
theorem dX12_isAsSeen_112 : decode cX12_isAsSeen 112 = .ok (.invokevirtual 345, 3) := by decide +kernel
theorem dX12_isAsSeen_115 : decode cX12_isAsSeen 115 = .ok (.aload_n 0, 1) := by decide +kernel
theorem dX12_isAsSeen_116 : decode cX12_isAsSeen 116 = .ok (.getfield 45, 3) := by decide +kernel
theorem dX12_isAsSeen_119 : decode cX12_isAsSeen 119 = .ok (.bipush 9, 2) := by decide +kernel
theorem dX12_isAsSeen_121 : decode cX12_isAsSeen 121 = .ok (.iload_n 3, 1) := by decide +kernel
theorem dX12_isAsSeen_122 : decode cX12_isAsSeen 122 = .ok (.imul, 1) := by decide +kernel
theorem dX12_isAsSeen_123 : decode cX12_isAsSeen 123 = .ok (.iload 4, 2) := by decide +kernel
theorem dX12_isAsSeen_125 : decode cX12_isAsSeen 125 = .ok (.iadd, 1) := by decide +kernel
theorem dX12_isAsSeen_126 : decode cX12_isAsSeen 126 = .ok (.iaload, 1) := by decide +kernel
theorem dX12_isAsSeen_127 : decode cX12_isAsSeen 127 = .ok (.if_icmp .ne 7, 3) := by decide +kernel
theorem dX12_isAsSeen_130 : decode cX12_isAsSeen 130 = .ok (.iconst 1, 1) := by decide +kernel
theorem dX12_isAsSeen_131 : decode cX12_isAsSeen 131 = .ok (.goto 4, 3) := by decide +kernel
theorem dX12_isAsSeen_134 : decode cX12_isAsSeen 134 = .ok (.iconst 0, 1) := by decide +kernel
theorem dX12_isAsSeen_135 : decode cX12_isAsSeen 135 = .ok (.istore_n 2, 1) := by decide +kernel
theorem dX12_isAsSeen_136 : decode cX12_isAsSeen 136 = .ok (.iinc 4 1, 3) := by decide +kernel
theorem dX12_isAsSeen_139 : decode cX12_isAsSeen 139 = .ok (.goto (-53), 3) := by decide +kernel
theorem dX12_isAsSeen_142 : decode cX12_isAsSeen 142 = .ok (.iinc 3 1, 3) := by decide +kernel
theorem dX12_isAsSeen_145 : decode cX12_isAsSeen 145 = .ok (.goto (-76), 3) := by decide +kernel
theorem dX12_isAsSeen_148 : decode cX12_isAsSeen 148 = .ok (.iconst 0, 1) := by decide +kernel
theorem dX12_isAsSeen_149 : decode cX12_isAsSeen 149 = .ok (.istore_n 3, 1) := by decide +kernel
theorem dX12_isAsSeen_150 : decode cX12_isAsSeen 150 = .ok (.iload_n 3, 1) := by decide +kernel
theorem dX12_isAsSeen_151 : decode cX12_isAsSeen 151 = .ok (.aload_n 0, 1) := by decide +kernel
theorem dX12_isAsSeen_152 : decode cX12_isAsSeen 152 = .ok (.getfield 433, 3) := by decide +kernel
theorem dX12_isAsSeen_155 : decode cX12_isAsSeen 155 = .ok (.if_icmp .ge 35, 3) := by decide +kernel
theorem dX12_isAsSeen_158 : decode cX12_isAsSeen 158 = .ok (.aload_n 0, 1) := by decide +kernel
theorem dX12_isAsSeen_159 : decode cX12_isAsSeen 159 = .ok (.getfield 35, 3) := by decide +kernel
theorem dX12_isAsSeen_162 : decode cX12_isAsSeen 162 = .ok (.sipush 144, 3) := by decide +kernel
theorem dX12_isAsSeen_165 : decode cX12_isAsSeen 165 = .ok (.aload_n 0, 1) := by decide +kernel
theorem dX12_isAsSeen_166 : decode cX12_isAsSeen 166 = .ok (.getfield 57, 3) := by decide +kernel
theorem dX12_isAsSeen_169 : decode cX12_isAsSeen 169 = .ok (.iload_n 3, 1) := by decide +kernel
theorem dX12_isAsSeen_170 : decode cX12_isAsSeen 170 = .ok (.iaload, 1) := by decide +kernel
theorem dX12_isAsSeen_171 : decode cX12_isAsSeen 171 = .ok (.iadd, 1) := by decide +kernel
theorem dX12_isAsSeen_172 : decode cX12_isAsSeen 172 = .ok (.aload_n 0, 1) := by decide +kernel
theorem dX12_isAsSeen_173 : decode cX12_isAsSeen 173 = .ok (.getfield 72, 3) := by decide +kernel
theorem dX12_isAsSeen_176 : decode cX12_isAsSeen 176 = .ok (.aload_n 0, 1) := by decide +kernel
theorem dX12_isAsSeen_177 : decode cX12_isAsSeen 177 = .ok (.getfield 57, 3) := by decide +kernel
theorem dX12_isAsSeen_180 : decode cX12_isAsSeen 180 = .ok (.iload_n 3, 1) := by decide +kernel
theorem dX12_isAsSeen_181 : decode cX12_isAsSeen 181 = .ok (.iaload, 1) := by decide +kernel
theorem dX12_isAsSeen_182 : decode cX12_isAsSeen 182 = .ok (.iaload, 1) := by decide +kernel
theorem dX12_isAsSeen_183 : decode cX12_isAsSeen 183 = .ok (.iastore, 1) := by decide +kernel
theorem dX12_isAsSeen_184 : decode cX12_isAsSeen 184 = .ok (.iinc 3 1, 3) := by decide +kernel
theorem dX12_isAsSeen_187 : decode cX12_isAsSeen 187 = .ok (.goto (-37), 3) := by decide +kernel
theorem dX12_isAsSeen_190 : decode cX12_isAsSeen 190 = .ok (.iload_n 2, 1) := by decide +kernel
theorem dX12_isAsSeen_191 : decode cX12_isAsSeen 191 = .ok (.ireturn, 1) := by decide +kernel
theorem dX12_order_0 : decode cX12_order 0 = .ok (.aload_n 0, 1) := by decide +kernel
theorem dX12_order_1 : decode cX12_order 1 = .ok (.iconst 0, 1) := by decide +kernel
theorem dX12_order_2 : decode cX12_order 2 = .ok (.putfield 81, 3) := by decide +kernel
theorem dX12_order_5 : decode cX12_order 5 = .ok (.aload_n 0, 1) := by decide +kernel
theorem dX12_order_6 : decode cX12_order 6 = .ok (.iconst 0, 1) := by decide +kernel
theorem dX12_order_7 : decode cX12_order 7 = .ok (.putfield 84, 3) := by decide +kernel
theorem dX12_order_10 : decode cX12_order 10 = .ok (.aload_n 0, 1) := by decide +kernel
theorem dX12_order_11 : decode cX12_order 11 = .ok (.iload_n 1, 1) := by decide +kernel
theorem dX12_order_12 : decode cX12_order 12 = .ok (.invokevirtual 336, 3) := by decide +kernel
theorem dX12_order_15 : decode cX12_order 15 = .ok (.ifCond .ne 9, 3) := by decide +kernel
theorem dX12_order_18 : decode cX12_order 18 = .ok (.aload_n 0, 1) := by decide +kernel
theorem dX12_order_19 : decode cX12_order 19 = .ok (.iconst 1, 1) := by decide +kernel
theorem dX12_order_20 : decode cX12_order 20 = .ok (.invokevirtual 316, 3) := by decide +kernel
theorem dX12_order_23 : decode cX12_order 23 = .ok (.ireturn, 1) := by decide +kernel
theorem dX12_order_24 : decode cX12_order 24 = .ok (.aload_n 0, 1) := by decide +kernel
theorem dX12_order_25 : decode cX12_order 25 = .ok (.getfield 17, 3) := by decide +kernel
theorem dX12_order_28 : decode cX12_order 28 = .ok (.iload_n 1, 1) := by decide +kernel
theorem dX12_order_29 : decode cX12_order 29 = .ok (.iaload, 1) := by decide +kernel
theorem dX12_order_30 : decode cX12_order 30 = .ok (.ifCond .ge 9, 3) := by decide +kernel
theorem dX12_order_33 : decode cX12_order 33 = .ok (.aload_n 0, 1) := by decide +kernel
theorem dX12_order_34 : decode cX12_order 34 = .ok (.iconst 3, 1) := by decide +kernel
theorem dX12_order_35 : decode cX12_order 35 = .ok (.invokevirtual 316, 3) := by decide +kernel
theorem dX12_order_38 : decode cX12_order 38 = .ok (.ireturn, 1) := by decide +kernel
theorem dX12_order_39 : decode cX12_order 39 = .ok (.aload_n 0, 1) := by decide +kernel
theorem dX12_order_40 : decode cX12_order 40 = .ok (.iload_n 1, 1) := by decide +kernel
theorem dX12_order_41 : decode cX12_order 41 = .ok (.aload_n 0, 1) := by decide +kernel
theorem dX12_order_42 : decode cX12_order 42 = .ok (.invokevirtual 305, 3) := by decide +kernel
theorem dX12_order_45 : decode cX12_order 45 = .ok (.invokevirtual 339, 3) := by decide +kernel
theorem dX12_order_48 : decode cX12_order 48 = .ok (.istore_n 2, 1) := by decide +kernel
theorem dX12_order_49 : decode cX12_order 49 = .ok (.iload_n 2, 1) := by decide +kernel
theorem dX12_order_50 : decode cX12_order 50 = .ok (.ifCond .le 9, 3) := by decide +kernel
theorem dX12_order_53 : decode cX12_order 53 = .ok (.aload_n 0, 1) := by decide +kernel
theorem dX12_order_54 : decode cX12_order 54 = .ok (.iload_n 2, 1) := by decide +kernel
theorem dX12_order_55 : decode cX12_order 55 = .ok (.invokevirtual 316, 3) := by decide +kernel
theorem dX12_order_58 : decode cX12_order 58 = .ok (.ireturn, 1) := by decide +kernel
theorem dX12_order_59 : decode cX12_order 59 = .ok (.iconst 0, 1) := by decide +kernel
theorem dX12_order_60 : decode cX12_order 60 = .ok (.istore_n 3, 1) := by decide +kernel
theorem dX12_order_61 : decode cX12_order 61 = .ok (.iconst 0, 1) := by decide +kernel
theorem dX12_order_62 : decode cX12_order 62 = .ok (.istore 4, 2) := by decide +kernel
theorem dX12_order_64 : decode cX12_order 64 = .ok (.iload 4, 2) := by decide +kernel
theorem dX12_order_66 : decode cX12_order 66 = .ok (.aload_n 0, 1) := by decide +kernel
theorem dX12_order_67 : decode cX12_order 67 = .ok (.invokevirtual 305, 3) := by decide +kernel
theorem dX12_order_70 : decode cX12_order 70 = .ok (.if_icmp .ge 40, 3) := by decide +kernel
theorem dX12_order_73 : decode cX12_order 73 = .ok (.iload_n 3, 1) := by decide +kernel
theorem dX12_order_74 : decode cX12_order 74 = .ok (.aload_n 0, 1) := by decide +kernel
theorem dX12_order_75 : decode cX12_order 75 = .ok (.iload_n 1, 1) := by decide +kernel
theorem dX12_order_76 : decode cX12_order 76 = .ok (.iload 4, 2) := by decide +kernel
theorem dX12_order_78 : decode cX12_order 78 = .ok (.invokevirtual 332, 3) := by decide +kernel
theorem dX12_order_81 : decode cX12_order 81 = .ok (.aload_n 0, 1) := by decide +kernel
theorem dX12_order_82 : decode cX12_order 82 = .ok (.getfield 35, 3) := by decide +kernel
theorem dX12_order_85 : decode cX12_order 85 = .ok (.sipush 144, 3) := by decide +kernel
theorem dX12_order_88 : decode cX12_order 88 = .ok (.iload 4, 2) := by decide +kernel
theorem dX12_order_90 : decode cX12_order 90 = .ok (.iadd, 1) := by decide +kernel
theorem dX12_order_91 : decode cX12_order 91 = .ok (.iaload, 1) := by decide +kernel
theorem dX12_order_92 : decode cX12_order 92 = .ok (.i2l, 1) := by decide +kernel
theorem dX12_order_93 : decode cX12_order 93 = .ok (.lcmp, 1) := by decide +kernel
theorem dX12_order_94 : decode cX12_order 94 = .ok (.ifCond .ne 7, 3) := by decide +kernel
theorem dX12_order_97 : decode cX12_order 97 = .ok (.iconst 0, 1) := by decide +kernel
theorem dX12_order_98 : decode cX12_order 98 = .ok (.goto 4, 3) := by decide +kernel
theorem dX12_order_101 : decode cX12_order 101 = .ok (.iconst 1, 1) := by decide +kernel
theorem dX12_order_102 : decode cX12_order 102 = .ok (.iadd, 1) := by decide +kernel
theorem dX12_order_103 : decode cX12_order 103 = .ok (.istore_n 3, 1) := by decide +kernel
theorem dX12_order_104 : decode cX12_order 104 = .ok (.iinc 4 1, 3) := by decide +kernel
theorem dX12_order_107 : decode cX12_order 107 = .ok (.goto (-43), 3) := by decide +kernel
theorem dX12_order_110 : decode cX12_order 110 = .ok (.iload_n 3, 1) := by decide +kernel
theorem dX12_order_111 : decode cX12_order 111 = .ok (.bipush 12, 2) := by decide +kernel
theorem dX12_order_113 : decode cX12_order 113 = .ok (.if_icmp .le 10, 3) := by decide +kernel
theorem dX12_order_116 : decode cX12_order 116 = .ok (.aload_n 0, 1) := by decide +kernel
theorem dX12_order_117 : decode cX12_order 117 = .ok (.bipush 7, 2) := by decide +kernel
theorem dX12_order_119 : decode cX12_order 119 = .ok (.invokevirtual 316, 3) := by decide +kernel
theorem dX12_order_122 : decode cX12_order 122 = .ok (.ireturn, 1) := by decide +kernel
theorem dX12_order_123 : decode cX12_order 123 = .ok (.aload_n 0, 1) := by decide +kernel
theorem dX12_order_124 : decode cX12_order 124 = .ok (.iconst 0, 1) := by decide +kernel
theorem dX12_order_125 : decode cX12_order 125 = .ok (.putfield 433, 3) := by decide +kernel
theorem dX12_order_128 : decode cX12_order 128 = .ok (.iconst 0, 1) := by decide +kernel
theorem dX12_order_129 : decode cX12_order 129 = .ok (.istore 4, 2) := by decide +kernel
theorem dX12_order_131 : decode cX12_order 131 = .ok (.iload 4, 2) := by decide +kernel
theorem dX12_order_133 : decode cX12_order 133 = .ok (.aload_n 0, 1) := by decide +kernel
theorem dX12_order_134 : decode cX12_order 134 = .ok (.invokevirtual 305, 3) := by decide +kernel
theorem dX12_order_137 : decode cX12_order 137 = .ok (.if_icmp .ge 83, 3) := by decide +kernel
theorem dX12_order_140 : decode cX12_order 140 = .ok (.aload_n 0, 1) := by decide +kernel
theorem dX12_order_141 : decode cX12_order 141 = .ok (.getfield 72, 3) := by decide +kernel
theorem dX12_order_144 : decode cX12_order 144 = .ok (.iload 4, 2) := by decide +kernel
theorem dX12_order_146 : decode cX12_order 146 = .ok (.aload_n 0, 1) := by decide +kernel
theorem dX12_order_147 : decode cX12_order 147 = .ok (.getfield 35, 3) := by decide +kernel
theorem dX12_order_150 : decode cX12_order 150 = .ok (.sipush 144, 3) := by decide +kernel
theorem dX12_order_153 : decode cX12_order 153 = .ok (.iload 4, 2) := by decide +kernel
theorem dX12_order_155 : decode cX12_order 155 = .ok (.iadd, 1) := by decide +kernel
theorem dX12_order_156 : decode cX12_order 156 = .ok (.iaload, 1) := by decide +kernel
theorem dX12_order_157 : decode cX12_order 157 = .ok (.iastore, 1) := by decide +kernel
theorem dX12_order_158 : decode cX12_order 158 = .ok (.aload_n 0, 1) := by decide +kernel
theorem dX12_order_159 : decode cX12_order 159 = .ok (.getfield 63, 3) := by decide +kernel
theorem dX12_order_162 : decode cX12_order 162 = .ok (.iload 4, 2) := by decide +kernel
theorem dX12_order_164 : decode cX12_order 164 = .ok (.aload_n 0, 1) := by decide +kernel
theorem dX12_order_165 : decode cX12_order 165 = .ok (.iload_n 1, 1) := by decide +kernel
theorem dX12_order_166 : decode cX12_order 166 = .ok (.iload 4, 2) := by decide +kernel
theorem dX12_order_168 : decode cX12_order 168 = .ok (.invokevirtual 332, 3) := by decide +kernel
theorem dX12_order_171 : decode cX12_order 171 = .ok (.l2i, 1) := by decide +kernel
theorem dX12_order_172 : decode cX12_order 172 = .ok (.iastore, 1) := by decide +kernel
theorem dX12_order_173 : decode cX12_order 173 = .ok (.aload_n 0, 1) := by decide +kernel
theorem dX12_order_174 : decode cX12_order 174 = .ok (.getfield 72, 3) := by decide +kernel
theorem dX12_order_177 : decode cX12_order 177 = .ok (.iload 4, 2) := by decide +kernel
theorem dX12_order_179 : decode cX12_order 179 = .ok (.iaload, 1) := by decide +kernel
theorem dX12_order_180 : decode cX12_order 180 = .ok (.aload_n 0, 1) := by decide +kernel
theorem dX12_order_181 : decode cX12_order 181 = .ok (.getfield 63, 3) := by decide +kernel
theorem dX12_order_184 : decode cX12_order 184 = .ok (.iload 4, 2) := by decide +kernel
theorem dX12_order_186 : decode cX12_order 186 = .ok (.iaload, 1) := by decide +kernel
theorem dX12_order_187 : decode cX12_order 187 = .ok (.if_icmp .ne 6, 3) := by decide +kernel
theorem dX12_order_190 : decode cX12_order 190 = .ok (.goto 24, 3) := by decide +kernel
theorem dX12_order_193 : decode cX12_order 193 = .ok (.aload_n 0, 1) := by decide +kernel
theorem dX12_order_194 : decode cX12_order 194 = .ok (.getfield 57, 3) := by decide +kernel
theorem dX12_order_197 : decode cX12_order 197 = .ok (.aload_n 0, 1) := by decide +kernel
theorem dX12_order_198 : decode cX12_order 198 = .ok (.getfield 433, 3) := by decide +kernel
theorem dX12_order_201 : decode cX12_order 201 = .ok (.iload 4, 2) := by decide +kernel
theorem dX12_order_203 : decode cX12_order 203 = .ok (.iastore, 1) := by decide +kernel
theorem dX12_order_204 : decode cX12_order 204 = .ok (.aload_n 0, 1) := by decide +kernel
theorem dX12_order_205 : decode cX12_order 205 = .ok (.dup, 1) := by decide +kernel
theorem dX12_order_206 : decode cX12_order 206 = .ok (.getfield 433, 3) := by decide +kernel
theorem dX12_order_209 : decode cX12_order 209 = .ok (.iconst 1, 1) := by decide +kernel
theorem dX12_order_210 : decode cX12_order 210 = .ok (.iadd, 1) := by decide +kernel
theorem dX12_order_211 : decode cX12_order 211 = .ok (.putfield 433, 3) := by decide +kernel
theorem dX12_order_214 : decode cX12_order 214 = .ok (.iinc 4 1, 3) := by decide +kernel
theorem dX12_order_217 : decode cX12_order 217 = .ok (.goto (-86), 3) := by decide +kernel
theorem dX12_order_220 : decode cX12_order 220 = .ok (.aload_n 0, 1) := by decide +kernel
theorem dX12_order_221 : decode cX12_order 221 = .ok (.invokevirtual 415, 3) := by decide +kernel
theorem dX12_order_224 : decode cX12_order 224 = .ok (.iconst 1, 1) := by decide +kernel
theorem dX12_order_225 : decode cX12_order 225 = .ok (.aload_n 0, 1) := by decide +kernel
theorem dX12_order_226 : decode cX12_order 226 = .ok (.getfield 433, 3) := by decide +kernel
theorem dX12_order_229 : decode cX12_order 229 = .ok (.ishl, 1) := by decide +kernel
theorem dX12_order_230 : decode cX12_order 230 = .ok (.iconst 1, 1) := by decide +kernel
theorem dX12_order_231 : decode cX12_order 231 = .ok (.isub, 1) := by decide +kernel
theorem dX12_order_232 : decode cX12_order 232 = .ok (.istore 4, 2) := by decide +kernel
theorem dX12_order_234 : decode cX12_order 234 = .ok (.iload 4, 2) := by decide +kernel
theorem dX12_order_236 : decode cX12_order 236 = .ok (.istore 5, 2) := by decide +kernel
theorem dX12_order_238 : decode cX12_order 238 = .ok (.iload 5, 2) := by decide +kernel
theorem dX12_order_240 : decode cX12_order 240 = .ok (.ifCond .lt 105, 3) := by decide +kernel
theorem dX12_order_243 : decode cX12_order 243 = .ok (.iload 5, 2) := by decide +kernel
theorem dX12_order_245 : decode cX12_order 245 = .ok (.iload 4, 2) := by decide +kernel
theorem dX12_order_247 : decode cX12_order 247 = .ok (.if_icmp .ne 7, 3) := by decide +kernel
theorem dX12_order_250 : decode cX12_order 250 = .ok (.iconst 1, 1) := by decide +kernel
theorem dX12_order_251 : decode cX12_order 251 = .ok (.goto 4, 3) := by decide +kernel
theorem dX12_order_254 : decode cX12_order 254 = .ok (.iconst 0, 1) := by decide +kernel
theorem dX12_order_255 : decode cX12_order 255 = .ok (.istore 6, 2) := by decide +kernel
theorem dX12_order_257 : decode cX12_order 257 = .ok (.iconst 0, 1) := by decide +kernel
theorem dX12_order_258 : decode cX12_order 258 = .ok (.istore 7, 2) := by decide +kernel
theorem dX12_order_260 : decode cX12_order 260 = .ok (.iload 7, 2) := by decide +kernel
theorem dX12_order_262 : decode cX12_order 262 = .ok (.aload_n 0, 1) := by decide +kernel
theorem dX12_order_263 : decode cX12_order 263 = .ok (.getfield 433, 3) := by decide +kernel
theorem dX12_order_266 : decode cX12_order 266 = .ok (.if_icmp .ge 47, 3) := by decide +kernel
theorem dX12_order_269 : decode cX12_order 269 = .ok (.iload 6, 2) := by decide +kernel
theorem dX12_order_271 : decode cX12_order 271 = .ok (.ifCond .ne 29, 3) := by decide +kernel
theorem dX12_order_274 : decode cX12_order 274 = .ok (.aload_n 0, 1) := by decide +kernel
theorem dX12_order_275 : decode cX12_order 275 = .ok (.iload 5, 2) := by decide +kernel
theorem dX12_order_277 : decode cX12_order 277 = .ok (.iload 7, 2) := by decide +kernel
theorem dX12_order_279 : decode cX12_order 279 = .ok (.invokevirtual 381, 3) := by decide +kernel
theorem dX12_order_282 : decode cX12_order 282 = .ok (.ifCond .ne 22, 3) := by decide +kernel
theorem dX12_order_285 : decode cX12_order 285 = .ok (.aload_n 0, 1) := by decide +kernel
theorem dX12_order_286 : decode cX12_order 286 = .ok (.getfield 66, 3) := by decide +kernel
theorem dX12_order_289 : decode cX12_order 289 = .ok (.iload 5, 2) := by decide +kernel
theorem dX12_order_291 : decode cX12_order 291 = .ok (.iconst 1, 1) := by decide +kernel
theorem dX12_order_292 : decode cX12_order 292 = .ok (.iload 7, 2) := by decide +kernel
theorem dX12_order_294 : decode cX12_order 294 = .ok (.ishl, 1) := by decide +kernel
theorem dX12_order_295 : decode cX12_order 295 = .ok (.ior, 1) := by decide +kernel
theorem dX12_order_296 : decode cX12_order 296 = .ok (.baload, 1) := by decide +kernel
theorem dX12_order_297 : decode cX12_order 297 = .ok (.ifCond .eq 7, 3) := by decide +kernel
theorem dX12_order_300 : decode cX12_order 300 = .ok (.iconst 1, 1) := by decide +kernel
theorem dX12_order_301 : decode cX12_order 301 = .ok (.goto 4, 3) := by decide +kernel
theorem dX12_order_304 : decode cX12_order 304 = .ok (.iconst 0, 1) := by decide +kernel
theorem dX12_order_305 : decode cX12_order 305 = .ok (.istore 6, 2) := by decide +kernel
theorem dX12_order_307 : decode cX12_order 307 = .ok (.iinc 7 1, 3) := by decide +kernel
theorem dX12_order_310 : decode cX12_order 310 = .ok (.goto (-50), 3) := by decide +kernel
theorem dX12_order_313 : decode cX12_order 313 = .ok (.aload_n 0, 1) := by decide +kernel
theorem dX12_order_314 : decode cX12_order 314 = .ok (.getfield 66, 3) := by decide +kernel
theorem dX12_order_317 : decode cX12_order 317 = .ok (.iload 5, 2) := by decide +kernel
theorem dX12_order_319 : decode cX12_order 319 = .ok (.iload 6, 2) := by decide +kernel
theorem dX12_order_321 : decode cX12_order 321 = .ok (.ifCond .eq 16, 3) := by decide +kernel
theorem dX12_order_324 : decode cX12_order 324 = .ok (.aload_n 0, 1) := by decide +kernel
theorem dX12_order_325 : decode cX12_order 325 = .ok (.iload 5, 2) := by decide +kernel
theorem dX12_order_327 : decode cX12_order 327 = .ok (.invokevirtual 436, 3) := by decide +kernel
theorem dX12_order_330 : decode cX12_order 330 = .ok (.ifCond .eq 7, 3) := by decide +kernel
theorem dX12_order_333 : decode cX12_order 333 = .ok (.iconst 1, 1) := by decide +kernel
theorem dX12_order_334 : decode cX12_order 334 = .ok (.goto 4, 3) := by decide +kernel
theorem dX12_order_337 : decode cX12_order 337 = .ok (.iconst 0, 1) := by decide +kernel
theorem dX12_order_338 : decode cX12_order 338 = .ok (.bastore, 1) := by decide +kernel
theorem dX12_order_339 : decode cX12_order 339 = .ok (.iinc 5 (-1), 3) := by decide +kernel
theorem dX12_order_342 : decode cX12_order 342 = .ok (.goto (-104), 3) := by decide +kernel
theorem dX12_order_345 : decode cX12_order 345 = .ok (.aload_n 0, 1) := by decide +kernel
theorem dX12_order_346 : decode cX12_order 346 = .ok (.getfield 66, 3) := by decide +kernel
theorem dX12_order_349 : decode cX12_order 349 = .ok (.iconst 0, 1) := by decide +kernel
theorem dX12_order_350 : decode cX12_order 350 = .ok (.baload, 1) := by decide +kernel
theorem dX12_order_351 : decode cX12_order 351 = .ok (.ifCond .ne 10, 3) := by decide +kernel
theorem dX12_order_354 : decode cX12_order 354 = .ok (.aload_n 0, 1) := by decide +kernel
theorem dX12_order_355 : decode cX12_order 355 = .ok (.bipush 9, 2) := by decide +kernel
theorem dX12_order_357 : decode cX12_order 357 = .ok (.invokevirtual 316, 3) := by decide +kernel
theorem dX12_order_360 : decode cX12_order 360 = .ok (.ireturn, 1) := by decide +kernel
theorem dX12_order_361 : decode cX12_order 361 = .ok (.iconst 0, 1) := by decide +kernel
theorem dX12_order_362 : decode cX12_order 362 = .ok (.istore 5, 2) := by decide +kernel
theorem dX12_order_364 : decode cX12_order 364 = .ok (.aload_n 0, 1) := by decide +kernel
theorem dX12_order_365 : decode cX12_order 365 = .ok (.aload_n 0, 1) := by decide +kernel
theorem dX12_order_366 : decode cX12_order 366 = .ok (.getfield 433, 3) := by decide +kernel
theorem dX12_order_369 : decode cX12_order 369 = .ok (.putfield 439, 3) := by decide +kernel
theorem dX12_order_372 : decode cX12_order 372 = .ok (.iconst 0, 1) := by decide +kernel
theorem dX12_order_373 : decode cX12_order 373 = .ok (.istore 6, 2) := by decide +kernel
theorem dX12_order_375 : decode cX12_order 375 = .ok (.iload 6, 2) := by decide +kernel
theorem dX12_order_377 : decode cX12_order 377 = .ok (.aload_n 0, 1) := by decide +kernel
theorem dX12_order_378 : decode cX12_order 378 = .ok (.getfield 433, 3) := by decide +kernel
theorem dX12_order_381 : decode cX12_order 381 = .ok (.if_icmp .ge 67, 3) := by decide +kernel
theorem dX12_order_384 : decode cX12_order 384 = .ok (.iconst 0, 1) := by decide +kernel
theorem dX12_order_385 : decode cX12_order 385 = .ok (.istore 7, 2) := by decide +kernel
theorem dX12_order_387 : decode cX12_order 387 = .ok (.aload_n 0, 1) := by decide +kernel
theorem dX12_order_388 : decode cX12_order 388 = .ok (.iload 5, 2) := by decide +kernel
theorem dX12_order_390 : decode cX12_order 390 = .ok (.iload 7, 2) := by decide +kernel
theorem dX12_order_392 : decode cX12_order 392 = .ok (.invokevirtual 381, 3) := by decide +kernel
theorem dX12_order_395 : decode cX12_order 395 = .ok (.ifCond .ne 18, 3) := by decide +kernel
theorem dX12_order_398 : decode cX12_order 398 = .ok (.aload_n 0, 1) := by decide +kernel
theorem dX12_order_399 : decode cX12_order 399 = .ok (.getfield 66, 3) := by decide +kernel
theorem dX12_order_402 : decode cX12_order 402 = .ok (.iload 5, 2) := by decide +kernel
theorem dX12_order_404 : decode cX12_order 404 = .ok (.iconst 1, 1) := by decide +kernel
theorem dX12_order_405 : decode cX12_order 405 = .ok (.iload 7, 2) := by decide +kernel
theorem dX12_order_407 : decode cX12_order 407 = .ok (.ishl, 1) := by decide +kernel
theorem dX12_order_408 : decode cX12_order 408 = .ok (.ior, 1) := by decide +kernel
theorem dX12_order_409 : decode cX12_order 409 = .ok (.baload, 1) := by decide +kernel
theorem dX12_order_410 : decode cX12_order 410 = .ok (.ifCond .ne 9, 3) := by decide +kernel
theorem dX12_order_413 : decode cX12_order 413 = .ok (.iinc 7 1, 3) := by decide +kernel
theorem dX12_order_416 : decode cX12_order 416 = .ok (.goto (-29), 3) := by decide +kernel
theorem dX12_order_419 : decode cX12_order 419 = .ok (.aload_n 0, 1) := by decide +kernel
theorem dX12_order_420 : decode cX12_order 420 = .ok (.getfield 60, 3) := by decide +kernel
theorem dX12_order_423 : decode cX12_order 423 = .ok (.iload 6, 2) := by decide +kernel
theorem dX12_order_425 : decode cX12_order 425 = .ok (.aload_n 0, 1) := by decide +kernel
theorem dX12_order_426 : decode cX12_order 426 = .ok (.getfield 57, 3) := by decide +kernel
theorem dX12_order_429 : decode cX12_order 429 = .ok (.iload 7, 2) := by decide +kernel
theorem dX12_order_431 : decode cX12_order 431 = .ok (.iaload, 1) := by decide +kernel
theorem dX12_order_432 : decode cX12_order 432 = .ok (.iastore, 1) := by decide +kernel
theorem dX12_order_433 : decode cX12_order 433 = .ok (.iload 5, 2) := by decide +kernel
theorem dX12_order_435 : decode cX12_order 435 = .ok (.iconst 1, 1) := by decide +kernel
theorem dX12_order_436 : decode cX12_order 436 = .ok (.iload 7, 2) := by decide +kernel
theorem dX12_order_438 : decode cX12_order 438 = .ok (.ishl, 1) := by decide +kernel
theorem dX12_order_439 : decode cX12_order 439 = .ok (.ior, 1) := by decide +kernel
theorem dX12_order_440 : decode cX12_order 440 = .ok (.istore 5, 2) := by decide +kernel
theorem dX12_order_442 : decode cX12_order 442 = .ok (.iinc 6 1, 3) := by decide +kernel
theorem dX12_order_445 : decode cX12_order 445 = .ok (.goto (-70), 3) := by decide +kernel
theorem dX12_order_448 : decode cX12_order 448 = .ok (.aload_n 0, 1) := by decide +kernel
theorem dX12_order_449 : decode cX12_order 449 = .ok (.getfield 433, 3) := by decide +kernel
theorem dX12_order_452 : decode cX12_order 452 = .ok (.ireturn, 1) := by decide +kernel
theorem dX12_orderAt_0 : decode cX12_orderAt 0 = .ok (.aload_n 0, 1) := by decide +kernel
theorem dX12_orderAt_1 : decode cX12_orderAt 1 = .ok (.iconst 0, 1) := by decide +kernel
theorem dX12_orderAt_2 : decode cX12_orderAt 2 = .ok (.putfield 81, 3) := by decide +kernel
theorem dX12_orderAt_5 : decode cX12_orderAt 5 = .ok (.aload_n 0, 1) := by decide +kernel
theorem dX12_orderAt_6 : decode cX12_orderAt 6 = .ok (.iconst 0, 1) := by decide +kernel
theorem dX12_orderAt_7 : decode cX12_orderAt 7 = .ok (.putfield 84, 3) := by decide +kernel
theorem dX12_orderAt_10 : decode cX12_orderAt 10 = .ok (.iload_n 1, 1) := by decide +kernel
theorem dX12_orderAt_11 : decode cX12_orderAt 11 = .ok (.i2l, 1) := by decide +kernel
theorem dX12_orderAt_12 : decode cX12_orderAt 12 = .ok (.lconst 0, 1) := by decide +kernel
theorem dX12_orderAt_13 : decode cX12_orderAt 13 = .ok (.aload_n 0, 1) := by decide +kernel
theorem dX12_orderAt_14 : decode cX12_orderAt 14 = .ok (.getfield 439, 3) := by decide +kernel
theorem dX12_orderAt_17 : decode cX12_orderAt 17 = .ok (.iconst 1, 1) := by decide +kernel
theorem dX12_orderAt_18 : decode cX12_orderAt 18 = .ok (.isub, 1) := by decide +kernel
theorem dX12_orderAt_19 : decode cX12_orderAt 19 = .ok (.i2l, 1) := by decide +kernel
theorem dX12_orderAt_20 : decode cX12_orderAt 20 = .ok (.invokestatic 116, 3) := by decide +kernel
theorem dX12_orderAt_23 : decode cX12_orderAt 23 = .ok (.ifCond .eq 12, 3) := by decide +kernel
theorem dX12_orderAt_26 : decode cX12_orderAt 26 = .ok (.aload_n 0, 1) := by decide +kernel
theorem dX12_orderAt_27 : decode cX12_orderAt 27 = .ok (.getfield 60, 3) := by decide +kernel
theorem dX12_orderAt_30 : decode cX12_orderAt 30 = .ok (.iload_n 1, 1) := by decide +kernel
theorem dX12_orderAt_31 : decode cX12_orderAt 31 = .ok (.iaload, 1) := by decide +kernel
theorem dX12_orderAt_32 : decode cX12_orderAt 32 = .ok (.goto 9, 3) := by decide +kernel
theorem dX12_orderAt_35 : decode cX12_orderAt 35 = .ok (.aload_n 0, 1) := by decide +kernel
theorem dX12_orderAt_36 : decode cX12_orderAt 36 = .ok (.bipush 8, 2) := by decide +kernel
theorem dX12_orderAt_38 : decode cX12_orderAt 38 = .ok (.invokevirtual 316, 3) := by decide +kernel
theorem dX12_orderAt_41 : decode cX12_orderAt 41 = .ok (.ireturn, 1) := by decide +kernel
theorem dX12_like_0 : decode cX12_like 0 = .ok (.aload_n 0, 1) := by decide +kernel
theorem dX12_like_1 : decode cX12_like 1 = .ok (.iconst 0, 1) := by decide +kernel
theorem dX12_like_2 : decode cX12_like 2 = .ok (.putfield 81, 3) := by decide +kernel
theorem dX12_like_5 : decode cX12_like 5 = .ok (.aload_n 0, 1) := by decide +kernel
theorem dX12_like_6 : decode cX12_like 6 = .ok (.iconst 0, 1) := by decide +kernel
theorem dX12_like_7 : decode cX12_like 7 = .ok (.putfield 84, 3) := by decide +kernel
theorem dX12_like_10 : decode cX12_like 10 = .ok (.aload_n 0, 1) := by decide +kernel
theorem dX12_like_11 : decode cX12_like 11 = .ok (.iload_n 1, 1) := by decide +kernel
theorem dX12_like_12 : decode cX12_like 12 = .ok (.invokevirtual 336, 3) := by decide +kernel
theorem dX12_like_15 : decode cX12_like 15 = .ok (.ifCond .ne 9, 3) := by decide +kernel
theorem dX12_like_18 : decode cX12_like 18 = .ok (.aload_n 0, 1) := by decide +kernel
theorem dX12_like_19 : decode cX12_like 19 = .ok (.iconst 1, 1) := by decide +kernel
theorem dX12_like_20 : decode cX12_like 20 = .ok (.invokevirtual 316, 3) := by decide +kernel
theorem dX12_like_23 : decode cX12_like 23 = .ok (.ireturn, 1) := by decide +kernel
theorem dX12_like_24 : decode cX12_like 24 = .ok (.aload_n 0, 1) := by decide +kernel
theorem dX12_like_25 : decode cX12_like 25 = .ok (.getfield 17, 3) := by decide +kernel
theorem dX12_like_28 : decode cX12_like 28 = .ok (.iload_n 1, 1) := by decide +kernel
theorem dX12_like_29 : decode cX12_like 29 = .ok (.iaload, 1) := by decide +kernel
theorem dX12_like_30 : decode cX12_like 30 = .ok (.ifCond .ge 9, 3) := by decide +kernel
theorem dX12_like_33 : decode cX12_like 33 = .ok (.aload_n 0, 1) := by decide +kernel
theorem dX12_like_34 : decode cX12_like 34 = .ok (.iconst 3, 1) := by decide +kernel
theorem dX12_like_35 : decode cX12_like 35 = .ok (.invokevirtual 316, 3) := by decide +kernel
theorem dX12_like_38 : decode cX12_like 38 = .ok (.ireturn, 1) := by decide +kernel
theorem dX12_like_39 : decode cX12_like 39 = .ok (.iload_n 2, 1) := by decide +kernel
theorem dX12_like_40 : decode cX12_like 40 = .ok (.i2l, 1) := by decide +kernel
theorem dX12_like_41 : decode cX12_like 41 = .ok (.lconst 1, 1) := by decide +kernel
theorem dX12_like_42 : decode cX12_like 42 = .ok (.ldc2_w 431, 3) := by decide +kernel
theorem dX12_like_45 : decode cX12_like 45 = .ok (.invokestatic 116, 3) := by decide +kernel
theorem dX12_like_48 : decode cX12_like 48 = .ok (.ifCond .ne 9, 3) := by decide +kernel
theorem dX12_like_51 : decode cX12_like 51 = .ok (.aload_n 0, 1) := by decide +kernel
theorem dX12_like_52 : decode cX12_like 52 = .ok (.iconst 5, 1) := by decide +kernel
theorem dX12_like_53 : decode cX12_like 53 = .ok (.invokevirtual 316, 3) := by decide +kernel
theorem dX12_like_56 : decode cX12_like 56 = .ok (.ireturn, 1) := by decide +kernel
theorem dX12_like_57 : decode cX12_like 57 = .ok (.aload_n 0, 1) := by decide +kernel
theorem dX12_like_58 : decode cX12_like 58 = .ok (.iload_n 1, 1) := by decide +kernel
theorem dX12_like_59 : decode cX12_like 59 = .ok (.iload_n 2, 1) := by decide +kernel
theorem dX12_like_60 : decode cX12_like 60 = .ok (.invokevirtual 339, 3) := by decide +kernel
theorem dX12_like_63 : decode cX12_like 63 = .ok (.istore_n 3, 1) := by decide +kernel
theorem dX12_like_64 : decode cX12_like 64 = .ok (.iload_n 3, 1) := by decide +kernel
theorem dX12_like_65 : decode cX12_like 65 = .ok (.ifCond .le 9, 3) := by decide +kernel
theorem dX12_like_68 : decode cX12_like 68 = .ok (.aload_n 0, 1) := by decide +kernel
theorem dX12_like_69 : decode cX12_like 69 = .ok (.iload_n 3, 1) := by decide +kernel
theorem dX12_like_70 : decode cX12_like 70 = .ok (.invokevirtual 316, 3) := by decide +kernel
theorem dX12_like_73 : decode cX12_like 73 = .ok (.ireturn, 1) := by decide +kernel
theorem dX12_like_74 : decode cX12_like 74 = .ok (.aload_n 0, 1) := by decide +kernel
theorem dX12_like_75 : decode cX12_like 75 = .ok (.getfield 35, 3) := by decide +kernel
theorem dX12_like_78 : decode cX12_like 78 = .ok (.iconst 2, 1) := by decide +kernel
theorem dX12_like_79 : decode cX12_like 79 = .ok (.iaload, 1) := by decide +kernel
theorem dX12_like_80 : decode cX12_like 80 = .ok (.ifCond .ne 10, 3) := by decide +kernel
theorem dX12_like_83 : decode cX12_like 83 = .ok (.aload_n 0, 1) := by decide +kernel
theorem dX12_like_84 : decode cX12_like 84 = .ok (.bipush 8, 2) := by decide +kernel
theorem dX12_like_86 : decode cX12_like 86 = .ok (.invokevirtual 316, 3) := by decide +kernel
theorem dX12_like_89 : decode cX12_like 89 = .ok (.ireturn, 1) := by decide +kernel
theorem dX12_like_90 : decode cX12_like 90 = .ok (.iconst 0, 1) := by decide +kernel
theorem dX12_like_91 : decode cX12_like 91 = .ok (.istore 4, 2) := by decide +kernel
theorem dX12_like_93 : decode cX12_like 93 = .ok (.iload 4, 2) := by decide +kernel
theorem dX12_like_95 : decode cX12_like 95 = .ok (.aload_n 0, 1) := by decide +kernel
theorem dX12_like_96 : decode cX12_like 96 = .ok (.getfield 35, 3) := by decide +kernel
theorem dX12_like_99 : decode cX12_like 99 = .ok (.iconst 2, 1) := by decide +kernel
theorem dX12_like_100 : decode cX12_like 100 = .ok (.iaload, 1) := by decide +kernel
theorem dX12_like_101 : decode cX12_like 101 = .ok (.if_icmp .ge 26, 3) := by decide +kernel
theorem dX12_like_104 : decode cX12_like 104 = .ok (.aload_n 0, 1) := by decide +kernel
theorem dX12_like_105 : decode cX12_like 105 = .ok (.iload 4, 2) := by decide +kernel
theorem dX12_like_107 : decode cX12_like 107 = .ok (.invokevirtual 311, 3) := by decide +kernel
theorem dX12_like_110 : decode cX12_like 110 = .ok (.iload_n 2, 1) := by decide +kernel
theorem dX12_like_111 : decode cX12_like 111 = .ok (.if_icmp .eq 10, 3) := by decide +kernel
theorem dX12_like_114 : decode cX12_like 114 = .ok (.aload_n 0, 1) := by decide +kernel
theorem dX12_like_115 : decode cX12_like 115 = .ok (.bipush 9, 2) := by decide +kernel
theorem dX12_like_117 : decode cX12_like 117 = .ok (.invokevirtual 316, 3) := by decide +kernel
theorem dX12_like_120 : decode cX12_like 120 = .ok (.ireturn, 1) := by decide +kernel
theorem dX12_like_121 : decode cX12_like 121 = .ok (.iinc 4 1, 3) := by decide +kernel
theorem dX12_like_124 : decode cX12_like 124 = .ok (.goto (-31), 3) := by decide +kernel
theorem dX12_like_127 : decode cX12_like 127 = .ok (.iconst 0, 1) := by decide +kernel
theorem dX12_like_128 : decode cX12_like 128 = .ok (.istore 4, 2) := by decide +kernel
theorem dX12_like_130 : decode cX12_like 130 = .ok (.iload 4, 2) := by decide +kernel
theorem dX12_like_132 : decode cX12_like 132 = .ok (.aload_n 0, 1) := by decide +kernel
theorem dX12_like_133 : decode cX12_like 133 = .ok (.getfield 35, 3) := by decide +kernel
theorem dX12_like_136 : decode cX12_like 136 = .ok (.iconst 2, 1) := by decide +kernel
theorem dX12_like_137 : decode cX12_like 137 = .ok (.iaload, 1) := by decide +kernel
theorem dX12_like_138 : decode cX12_like 138 = .ok (.if_icmp .ge 53, 3) := by decide +kernel
theorem dX12_like_141 : decode cX12_like 141 = .ok (.aload_n 0, 1) := by decide +kernel
theorem dX12_like_142 : decode cX12_like 142 = .ok (.getfield 41, 3) := by decide +kernel
theorem dX12_like_145 : decode cX12_like 145 = .ok (.iload 4, 2) := by decide +kernel
theorem dX12_like_147 : decode cX12_like 147 = .ok (.iconst 1, 1) := by decide +kernel
theorem dX12_like_148 : decode cX12_like 148 = .ok (.bastore, 1) := by decide +kernel
theorem dX12_like_149 : decode cX12_like 149 = .ok (.iconst 0, 1) := by decide +kernel
theorem dX12_like_150 : decode cX12_like 150 = .ok (.istore 5, 2) := by decide +kernel
theorem dX12_like_152 : decode cX12_like 152 = .ok (.iload 5, 2) := by decide +kernel
theorem dX12_like_154 : decode cX12_like 154 = .ok (.iload_n 2, 1) := by decide +kernel
theorem dX12_like_155 : decode cX12_like 155 = .ok (.if_icmp .ge 30, 3) := by decide +kernel
theorem dX12_like_158 : decode cX12_like 158 = .ok (.aload_n 0, 1) := by decide +kernel
theorem dX12_like_159 : decode cX12_like 159 = .ok (.getfield 45, 3) := by decide +kernel
theorem dX12_like_162 : decode cX12_like 162 = .ok (.bipush 9, 2) := by decide +kernel
theorem dX12_like_164 : decode cX12_like 164 = .ok (.iload 4, 2) := by decide +kernel
theorem dX12_like_166 : decode cX12_like 166 = .ok (.imul, 1) := by decide +kernel
theorem dX12_like_167 : decode cX12_like 167 = .ok (.iload 5, 2) := by decide +kernel
theorem dX12_like_169 : decode cX12_like 169 = .ok (.iadd, 1) := by decide +kernel
theorem dX12_like_170 : decode cX12_like 170 = .ok (.aload_n 0, 1) := by decide +kernel
theorem dX12_like_171 : decode cX12_like 171 = .ok (.iload_n 1, 1) := by decide +kernel
theorem dX12_like_172 : decode cX12_like 172 = .ok (.iload 5, 2) := by decide +kernel
theorem dX12_like_174 : decode cX12_like 174 = .ok (.invokevirtual 332, 3) := by decide +kernel
theorem dX12_like_177 : decode cX12_like 177 = .ok (.l2i, 1) := by decide +kernel
theorem dX12_like_178 : decode cX12_like 178 = .ok (.iastore, 1) := by decide +kernel
theorem dX12_like_179 : decode cX12_like 179 = .ok (.iinc 5 1, 3) := by decide +kernel
theorem dX12_like_182 : decode cX12_like 182 = .ok (.goto (-30), 3) := by decide +kernel
theorem dX12_like_185 : decode cX12_like 185 = .ok (.iinc 4 1, 3) := by decide +kernel
theorem dX12_like_188 : decode cX12_like 188 = .ok (.goto (-58), 3) := by decide +kernel
theorem dX12_like_191 : decode cX12_like 191 = .ok (.aload_n 0, 1) := by decide +kernel
theorem dX12_like_192 : decode cX12_like 192 = .ok (.invokevirtual 351, 3) := by decide +kernel
theorem dX12_like_195 : decode cX12_like 195 = .ok (.aload_n 0, 1) := by decide +kernel
theorem dX12_like_196 : decode cX12_like 196 = .ok (.invokevirtual 375, 3) := by decide +kernel
theorem dX12_like_199 : decode cX12_like 199 = .ok (.ifCond .eq 7, 3) := by decide +kernel
theorem dX12_like_202 : decode cX12_like 202 = .ok (.iconst 1, 1) := by decide +kernel
theorem dX12_like_203 : decode cX12_like 203 = .ok (.goto 4, 3) := by decide +kernel
theorem dX12_like_206 : decode cX12_like 206 = .ok (.iconst 0, 1) := by decide +kernel
theorem dX12_like_207 : decode cX12_like 207 = .ok (.ireturn, 1) := by decide +kernel
theorem dX12_highest_0 : decode cX12_highest 0 = .ok (.aload_n 0, 1) := by decide +kernel
theorem dX12_highest_1 : decode cX12_highest 1 = .ok (.iconst 0, 1) := by decide +kernel
theorem dX12_highest_2 : decode cX12_highest 2 = .ok (.putfield 81, 3) := by decide +kernel
theorem dX12_highest_5 : decode cX12_highest 5 = .ok (.aload_n 0, 1) := by decide +kernel
theorem dX12_highest_6 : decode cX12_highest 6 = .ok (.iconst 0, 1) := by decide +kernel
theorem dX12_highest_7 : decode cX12_highest 7 = .ok (.putfield 84, 3) := by decide +kernel
theorem dX12_highest_10 : decode cX12_highest 10 = .ok (.aload_n 0, 1) := by decide +kernel
theorem dX12_highest_11 : decode cX12_highest 11 = .ok (.getfield 35, 3) := by decide +kernel
theorem dX12_highest_14 : decode cX12_highest 14 = .ok (.iconst 2, 1) := by decide +kernel
theorem dX12_highest_15 : decode cX12_highest 15 = .ok (.iaload, 1) := by decide +kernel
theorem dX12_highest_16 : decode cX12_highest 16 = .ok (.ifCond .ne 10, 3) := by decide +kernel
theorem dX12_highest_19 : decode cX12_highest 19 = .ok (.aload_n 0, 1) := by decide +kernel
theorem dX12_highest_20 : decode cX12_highest 20 = .ok (.bipush 8, 2) := by decide +kernel
theorem dX12_highest_22 : decode cX12_highest 22 = .ok (.invokevirtual 316, 3) := by decide +kernel
theorem dX12_highest_25 : decode cX12_highest 25 = .ok (.ireturn, 1) := by decide +kernel
theorem dX12_highest_26 : decode cX12_highest 26 = .ok (.bipush 99, 2) := by decide +kernel
theorem dX12_highest_28 : decode cX12_highest 28 = .ok (.istore_n 1, 1) := by decide +kernel
theorem dX12_highest_29 : decode cX12_highest 29 = .ok (.iload_n 1, 1) := by decide +kernel
theorem dX12_highest_30 : decode cX12_highest 30 = .ok (.ifCond .lt 76, 3) := by decide +kernel
theorem dX12_highest_33 : decode cX12_highest 33 = .ok (.iconst 0, 1) := by decide +kernel
theorem dX12_highest_34 : decode cX12_highest 34 = .ok (.istore_n 2, 1) := by decide +kernel
theorem dX12_highest_35 : decode cX12_highest 35 = .ok (.iload_n 2, 1) := by decide +kernel
theorem dX12_highest_36 : decode cX12_highest 36 = .ok (.aload_n 0, 1) := by decide +kernel
theorem dX12_highest_37 : decode cX12_highest 37 = .ok (.getfield 35, 3) := by decide +kernel
theorem dX12_highest_40 : decode cX12_highest 40 = .ok (.iconst 2, 1) := by decide +kernel
theorem dX12_highest_41 : decode cX12_highest 41 = .ok (.iaload, 1) := by decide +kernel
theorem dX12_highest_42 : decode cX12_highest 42 = .ok (.if_icmp .ge 45, 3) := by decide +kernel
theorem dX12_highest_45 : decode cX12_highest 45 = .ok (.aload_n 0, 1) := by decide +kernel
theorem dX12_highest_46 : decode cX12_highest 46 = .ok (.getfield 41, 3) := by decide +kernel
theorem dX12_highest_49 : decode cX12_highest 49 = .ok (.iload_n 2, 1) := by decide +kernel
theorem dX12_highest_50 : decode cX12_highest 50 = .ok (.iconst 1, 1) := by decide +kernel
theorem dX12_highest_51 : decode cX12_highest 51 = .ok (.bastore, 1) := by decide +kernel
theorem dX12_highest_52 : decode cX12_highest 52 = .ok (.iconst 0, 1) := by decide +kernel
theorem dX12_highest_53 : decode cX12_highest 53 = .ok (.istore_n 3, 1) := by decide +kernel
theorem dX12_highest_54 : decode cX12_highest 54 = .ok (.iload_n 3, 1) := by decide +kernel
theorem dX12_highest_55 : decode cX12_highest 55 = .ok (.aload_n 0, 1) := by decide +kernel
theorem dX12_highest_56 : decode cX12_highest 56 = .ok (.iload_n 2, 1) := by decide +kernel
theorem dX12_highest_57 : decode cX12_highest 57 = .ok (.invokevirtual 311, 3) := by decide +kernel
theorem dX12_highest_60 : decode cX12_highest 60 = .ok (.if_icmp .ge 21, 3) := by decide +kernel
theorem dX12_highest_63 : decode cX12_highest 63 = .ok (.aload_n 0, 1) := by decide +kernel
theorem dX12_highest_64 : decode cX12_highest 64 = .ok (.getfield 45, 3) := by decide +kernel
theorem dX12_highest_67 : decode cX12_highest 67 = .ok (.bipush 9, 2) := by decide +kernel
theorem dX12_highest_69 : decode cX12_highest 69 = .ok (.iload_n 2, 1) := by decide +kernel
theorem dX12_highest_70 : decode cX12_highest 70 = .ok (.imul, 1) := by decide +kernel
theorem dX12_highest_71 : decode cX12_highest 71 = .ok (.iload_n 3, 1) := by decide +kernel
theorem dX12_highest_72 : decode cX12_highest 72 = .ok (.iadd, 1) := by decide +kernel
theorem dX12_highest_73 : decode cX12_highest 73 = .ok (.iload_n 1, 1) := by decide +kernel
theorem dX12_highest_74 : decode cX12_highest 74 = .ok (.iastore, 1) := by decide +kernel
theorem dX12_highest_75 : decode cX12_highest 75 = .ok (.iinc 3 1, 3) := by decide +kernel
theorem dX12_highest_78 : decode cX12_highest 78 = .ok (.goto (-24), 3) := by decide +kernel
theorem dX12_highest_81 : decode cX12_highest 81 = .ok (.iinc 2 1, 3) := by decide +kernel
theorem dX12_highest_84 : decode cX12_highest 84 = .ok (.goto (-49), 3) := by decide +kernel
theorem dX12_highest_87 : decode cX12_highest 87 = .ok (.aload_n 0, 1) := by decide +kernel
theorem dX12_highest_88 : decode cX12_highest 88 = .ok (.invokevirtual 351, 3) := by decide +kernel
theorem dX12_highest_91 : decode cX12_highest 91 = .ok (.aload_n 0, 1) := by decide +kernel
theorem dX12_highest_92 : decode cX12_highest 92 = .ok (.invokevirtual 375, 3) := by decide +kernel
theorem dX12_highest_95 : decode cX12_highest 95 = .ok (.ifCond .eq 5, 3) := by decide +kernel
theorem dX12_highest_98 : decode cX12_highest 98 = .ok (.iload_n 1, 1) := by decide +kernel
theorem dX12_highest_99 : decode cX12_highest 99 = .ok (.ireturn, 1) := by decide +kernel
theorem dX12_highest_100 : decode cX12_highest 100 = .ok (.iinc 1 (-1), 3) := by decide +kernel
theorem dX12_highest_103 : decode cX12_highest 103 = .ok (.goto (-74), 3) := by decide +kernel
theorem dX12_highest_106 : decode cX12_highest 106 = .ok (.aload_n 0, 1) := by decide +kernel
theorem dX12_highest_107 : decode cX12_highest 107 = .ok (.bipush 8, 2) := by decide +kernel
theorem dX12_highest_109 : decode cX12_highest 109 = .ok (.invokevirtual 316, 3) := by decide +kernel
theorem dX12_highest_112 : decode cX12_highest 112 = .ok (.ireturn, 1) := by decide +kernel
theorem dX12_readSign_0 : decode cX12_readSign 0 = .ok (.aload_n 0, 1) := by decide +kernel
theorem dX12_readSign_1 : decode cX12_readSign 1 = .ok (.getfield 132, 3) := by decide +kernel
theorem dX12_readSign_4 : decode cX12_readSign 4 = .ok (.iconst 3, 1) := by decide +kernel
theorem dX12_readSign_5 : decode cX12_readSign 5 = .ok (.if_icmp .ne 10, 3) := by decide +kernel
theorem dX12_readSign_8 : decode cX12_readSign 8 = .ok (.aload_n 0, 1) := by decide +kernel
theorem dX12_readSign_9 : decode cX12_readSign 9 = .ok (.getfield 151, 3) := by decide +kernel
theorem dX12_readSign_12 : decode cX12_readSign 12 = .ok (.goto 4, 3) := by decide +kernel
theorem dX12_readSign_15 : decode cX12_readSign 15 = .ok (.iconst 0, 1) := by decide +kernel
theorem dX12_readSign_16 : decode cX12_readSign 16 = .ok (.istore_n 3, 1) := by decide +kernel
theorem dX12_readSign_17 : decode cX12_readSign 17 = .ok (.aload_n 0, 1) := by decide +kernel
theorem dX12_readSign_18 : decode cX12_readSign 18 = .ok (.aload_n 0, 1) := by decide +kernel
theorem dX12_readSign_19 : decode cX12_readSign 19 = .ok (.bipush 60, 2) := by decide +kernel
theorem dX12_readSign_21 : decode cX12_readSign 21 = .ok (.invokevirtual 252, 3) := by decide +kernel
theorem dX12_readSign_24 : decode cX12_readSign 24 = .ok (.ifCond .ne 21, 3) := by decide +kernel
theorem dX12_readSign_27 : decode cX12_readSign 27 = .ok (.aload_n 0, 1) := by decide +kernel
theorem dX12_readSign_28 : decode cX12_readSign 28 = .ok (.bipush 62, 2) := by decide +kernel
theorem dX12_readSign_30 : decode cX12_readSign 30 = .ok (.invokevirtual 252, 3) := by decide +kernel
theorem dX12_readSign_33 : decode cX12_readSign 33 = .ok (.ifCond .ne 12, 3) := by decide +kernel
theorem dX12_readSign_36 : decode cX12_readSign 36 = .ok (.aload_n 0, 1) := by decide +kernel
theorem dX12_readSign_37 : decode cX12_readSign 37 = .ok (.bipush 61, 2) := by decide +kernel
theorem dX12_readSign_39 : decode cX12_readSign 39 = .ok (.invokevirtual 252, 3) := by decide +kernel
theorem dX12_readSign_42 : decode cX12_readSign 42 = .ok (.ifCond .eq 7, 3) := by decide +kernel
theorem dX12_readSign_45 : decode cX12_readSign 45 = .ok (.iconst 1, 1) := by decide +kernel
theorem dX12_readSign_46 : decode cX12_readSign 46 = .ok (.goto 4, 3) := by decide +kernel
theorem dX12_readSign_49 : decode cX12_readSign 49 = .ok (.iconst 0, 1) := by decide +kernel
theorem dX12_readSign_50 : decode cX12_readSign 50 = .ok (.invokevirtual 265, 3) := by decide +kernel
theorem dX12_readSign_53 : decode cX12_readSign 53 = .ok (.aload_n 0, 1) := by decide +kernel
theorem dX12_readSign_54 : decode cX12_readSign 54 = .ok (.getfield 35, 3) := by decide +kernel
theorem dX12_readSign_57 : decode cX12_readSign 57 = .ok (.iload_n 1, 1) := by decide +kernel
theorem dX12_readSign_58 : decode cX12_readSign 58 = .ok (.iconst 5, 1) := by decide +kernel
theorem dX12_readSign_59 : decode cX12_readSign 59 = .ok (.iadd, 1) := by decide +kernel
theorem dX12_readSign_60 : decode cX12_readSign 60 = .ok (.iload_n 3, 1) := by decide +kernel
theorem dX12_readSign_61 : decode cX12_readSign 61 = .ok (.iastore, 1) := by decide +kernel
theorem dX12_readSign_62 : decode cX12_readSign 62 = .ok (.aload_n 0, 1) := by decide +kernel
theorem dX12_readSign_63 : decode cX12_readSign 63 = .ok (.getfield 35, 3) := by decide +kernel
theorem dX12_readSign_66 : decode cX12_readSign 66 = .ok (.iload_n 1, 1) := by decide +kernel
theorem dX12_readSign_67 : decode cX12_readSign 67 = .ok (.bipush 6, 2) := by decide +kernel
theorem dX12_readSign_69 : decode cX12_readSign 69 = .ok (.iadd, 1) := by decide +kernel
theorem dX12_readSign_70 : decode cX12_readSign 70 = .ok (.aload_n 0, 1) := by decide +kernel
theorem dX12_readSign_71 : decode cX12_readSign 71 = .ok (.iconst 0, 1) := by decide +kernel
theorem dX12_readSign_72 : decode cX12_readSign 72 = .ok (.iload_n 2, 1) := by decide +kernel
theorem dX12_readSign_73 : decode cX12_readSign 73 = .ok (.invokevirtual 292, 3) := by decide +kernel
theorem dX12_readSign_76 : decode cX12_readSign 76 = .ok (.iastore, 1) := by decide +kernel
theorem dX12_readSign_77 : decode cX12_readSign 77 = .ok (.return_, 1) := by decide +kernel
theorem dX12_readName_0 : decode cX12_readName 0 = .ok (.aload_n 0, 1) := by decide +kernel
theorem dX12_readName_1 : decode cX12_readName 1 = .ok (.getfield 229, 3) := by decide +kernel
theorem dX12_readName_4 : decode cX12_readName 4 = .ok (.ifCond .ne 14, 3) := by decide +kernel
theorem dX12_readName_7 : decode cX12_readName 7 = .ok (.aload_n 0, 1) := by decide +kernel
theorem dX12_readName_8 : decode cX12_readName 8 = .ok (.invokevirtual 259, 3) := by decide +kernel
theorem dX12_readName_11 : decode cX12_readName 11 = .ok (.ifCond .ne 7, 3) := by decide +kernel
theorem dX12_readName_14 : decode cX12_readName 14 = .ok (.aload_n 0, 1) := by decide +kernel
theorem dX12_readName_15 : decode cX12_readName 15 = .ok (.invokevirtual 242, 3) := by decide +kernel
theorem dX12_readName_18 : decode cX12_readName 18 = .ok (.aload_n 0, 1) := by decide +kernel
theorem dX12_readName_19 : decode cX12_readName 19 = .ok (.getfield 229, 3) := by decide +kernel
theorem dX12_readName_22 : decode cX12_readName 22 = .ok (.ifCond .ne 17, 3) := by decide +kernel
theorem dX12_readName_25 : decode cX12_readName 25 = .ok (.aload_n 0, 1) := by decide +kernel
theorem dX12_readName_26 : decode cX12_readName 26 = .ok (.iconst 0, 1) := by decide +kernel
theorem dX12_readName_27 : decode cX12_readName 27 = .ok (.aload_n 0, 1) := by decide +kernel
theorem dX12_readName_28 : decode cX12_readName 28 = .ok (.getfield 35, 3) := by decide +kernel
theorem dX12_readName_31 : decode cX12_readName 31 = .ok (.iconst 2, 1) := by decide +kernel
theorem dX12_readName_32 : decode cX12_readName 32 = .ok (.iaload, 1) := by decide +kernel
theorem dX12_readName_33 : decode cX12_readName 33 = .ok (.invokevirtual 262, 3) := by decide +kernel
theorem dX12_readName_36 : decode cX12_readName 36 = .ok (.goto 4, 3) := by decide +kernel
theorem dX12_readName_39 : decode cX12_readName 39 = .ok (.iconst 0, 1) := by decide +kernel
theorem dX12_readName_40 : decode cX12_readName 40 = .ok (.istore_n 1, 1) := by decide +kernel
theorem dX12_readName_41 : decode cX12_readName 41 = .ok (.aload_n 0, 1) := by decide +kernel
theorem dX12_readName_42 : decode cX12_readName 42 = .ok (.getfield 229, 3) := by decide +kernel
theorem dX12_readName_45 : decode cX12_readName 45 = .ok (.ifCond .ne 16, 3) := by decide +kernel
theorem dX12_readName_48 : decode cX12_readName 48 = .ok (.iload_n 1, 1) := by decide +kernel
theorem dX12_readName_49 : decode cX12_readName 49 = .ok (.ifCond .ge 12, 3) := by decide +kernel
theorem dX12_readName_52 : decode cX12_readName 52 = .ok (.aload_n 0, 1) := by decide +kernel
theorem dX12_readName_53 : decode cX12_readName 53 = .ok (.iconst 3, 1) := by decide +kernel
theorem dX12_readName_54 : decode cX12_readName 54 = .ok (.aload_n 0, 1) := by decide +kernel
theorem dX12_readName_55 : decode cX12_readName 55 = .ok (.getfield 126, 3) := by decide +kernel
theorem dX12_readName_58 : decode cX12_readName 58 = .ok (.invokevirtual 235, 3) := by decide +kernel
theorem dX12_readName_61 : decode cX12_readName 61 = .ok (.aload_n 0, 1) := by decide +kernel
theorem dX12_readName_62 : decode cX12_readName 62 = .ok (.iconst 1, 1) := by decide +kernel
theorem dX12_readName_63 : decode cX12_readName 63 = .ok (.invokevirtual 265, 3) := by decide +kernel
theorem dX12_readName_66 : decode cX12_readName 66 = .ok (.iload_n 1, 1) := by decide +kernel
theorem dX12_readName_67 : decode cX12_readName 67 = .ok (.ireturn, 1) := by decide +kernel
theorem dX12_readTest_0 : decode cX12_readTest 0 = .ok (.aload_n 0, 1) := by decide +kernel
theorem dX12_readTest_1 : decode cX12_readTest 1 = .ok (.invokevirtual 205, 3) := by decide +kernel
theorem dX12_readTest_4 : decode cX12_readTest 4 = .ok (.ifCond .eq 7, 3) := by decide +kernel
theorem dX12_readTest_7 : decode cX12_readTest 7 = .ok (.iconst 0, 1) := by decide +kernel
theorem dX12_readTest_8 : decode cX12_readTest 8 = .ok (.goto 37, 3) := by decide +kernel
theorem dX12_readTest_11 : decode cX12_readTest 11 = .ok (.aload_n 0, 1) := by decide +kernel
theorem dX12_readTest_12 : decode cX12_readTest 12 = .ok (.invokevirtual 187, 3) := by decide +kernel
theorem dX12_readTest_15 : decode cX12_readTest 15 = .ok (.ifCond .eq 7, 3) := by decide +kernel
theorem dX12_readTest_18 : decode cX12_readTest 18 = .ok (.iconst 1, 1) := by decide +kernel
theorem dX12_readTest_19 : decode cX12_readTest 19 = .ok (.goto 26, 3) := by decide +kernel
theorem dX12_readTest_22 : decode cX12_readTest 22 = .ok (.aload_n 0, 1) := by decide +kernel
theorem dX12_readTest_23 : decode cX12_readTest 23 = .ok (.invokevirtual 211, 3) := by decide +kernel
theorem dX12_readTest_26 : decode cX12_readTest 26 = .ok (.ifCond .eq 7, 3) := by decide +kernel
theorem dX12_readTest_29 : decode cX12_readTest 29 = .ok (.iconst 2, 1) := by decide +kernel
theorem dX12_readTest_30 : decode cX12_readTest 30 = .ok (.goto 15, 3) := by decide +kernel
theorem dX12_readTest_33 : decode cX12_readTest 33 = .ok (.aload_n 0, 1) := by decide +kernel
theorem dX12_readTest_34 : decode cX12_readTest 34 = .ok (.invokevirtual 214, 3) := by decide +kernel
theorem dX12_readTest_37 : decode cX12_readTest 37 = .ok (.ifCond .eq 7, 3) := by decide +kernel
theorem dX12_readTest_40 : decode cX12_readTest 40 = .ok (.iconst 3, 1) := by decide +kernel
theorem dX12_readTest_41 : decode cX12_readTest 41 = .ok (.goto 4, 3) := by decide +kernel
theorem dX12_readTest_44 : decode cX12_readTest 44 = .ok (.iconst (-1), 1) := by decide +kernel
theorem dX12_readTest_45 : decode cX12_readTest 45 = .ok (.istore_n 2, 1) := by decide +kernel
theorem dX12_readTest_46 : decode cX12_readTest 46 = .ok (.aload_n 0, 1) := by decide +kernel
theorem dX12_readTest_47 : decode cX12_readTest 47 = .ok (.iload_n 2, 1) := by decide +kernel
theorem dX12_readTest_48 : decode cX12_readTest 48 = .ok (.ifCond .lt 7, 3) := by decide +kernel
theorem dX12_readTest_51 : decode cX12_readTest 51 = .ok (.iconst 1, 1) := by decide +kernel
theorem dX12_readTest_52 : decode cX12_readTest 52 = .ok (.goto 4, 3) := by decide +kernel
theorem dX12_readTest_55 : decode cX12_readTest 55 = .ok (.iconst 0, 1) := by decide +kernel
theorem dX12_readTest_56 : decode cX12_readTest 56 = .ok (.invokevirtual 265, 3) := by decide +kernel
theorem dX12_readTest_59 : decode cX12_readTest 59 = .ok (.aload_n 0, 1) := by decide +kernel
theorem dX12_readTest_60 : decode cX12_readTest 60 = .ok (.getfield 35, 3) := by decide +kernel
theorem dX12_readTest_63 : decode cX12_readTest 63 = .ok (.iload_n 1, 1) := by decide +kernel
theorem dX12_readTest_64 : decode cX12_readTest 64 = .ok (.iconst 4, 1) := by decide +kernel
theorem dX12_readTest_65 : decode cX12_readTest 65 = .ok (.iadd, 1) := by decide +kernel
theorem dX12_readTest_66 : decode cX12_readTest 66 = .ok (.iload_n 2, 1) := by decide +kernel
theorem dX12_readTest_67 : decode cX12_readTest 67 = .ok (.iastore, 1) := by decide +kernel
theorem dX12_readTest_68 : decode cX12_readTest 68 = .ok (.iload_n 2, 1) := by decide +kernel
theorem dX12_readTest_69 : decode cX12_readTest 69 = .ok (.ifCond .ne 55, 3) := by decide +kernel
theorem dX12_readTest_72 : decode cX12_readTest 72 = .ok (.aload_n 0, 1) := by decide +kernel
theorem dX12_readTest_73 : decode cX12_readTest 73 = .ok (.getfield 35, 3) := by decide +kernel
theorem dX12_readTest_76 : decode cX12_readTest 76 = .ok (.iload_n 1, 1) := by decide +kernel
theorem dX12_readTest_77 : decode cX12_readTest 77 = .ok (.iconst 1, 1) := by decide +kernel
theorem dX12_readTest_78 : decode cX12_readTest 78 = .ok (.iadd, 1) := by decide +kernel
theorem dX12_readTest_79 : decode cX12_readTest 79 = .ok (.aload_n 0, 1) := by decide +kernel
theorem dX12_readTest_80 : decode cX12_readTest 80 = .ok (.iconst 0, 1) := by decide +kernel
theorem dX12_readTest_81 : decode cX12_readTest 81 = .ok (.aload_n 0, 1) := by decide +kernel
theorem dX12_readTest_82 : decode cX12_readTest 82 = .ok (.getfield 35, 3) := by decide +kernel
theorem dX12_readTest_85 : decode cX12_readTest 85 = .ok (.iconst 0, 1) := by decide +kernel
theorem dX12_readTest_86 : decode cX12_readTest 86 = .ok (.iaload, 1) := by decide +kernel
theorem dX12_readTest_87 : decode cX12_readTest 87 = .ok (.iconst 1, 1) := by decide +kernel
theorem dX12_readTest_88 : decode cX12_readTest 88 = .ok (.isub, 1) := by decide +kernel
theorem dX12_readTest_89 : decode cX12_readTest 89 = .ok (.invokevirtual 292, 3) := by decide +kernel
theorem dX12_readTest_92 : decode cX12_readTest 92 = .ok (.iastore, 1) := by decide +kernel
theorem dX12_readTest_93 : decode cX12_readTest 93 = .ok (.aload_n 0, 1) := by decide +kernel
theorem dX12_readTest_94 : decode cX12_readTest 94 = .ok (.getfield 35, 3) := by decide +kernel
theorem dX12_readTest_97 : decode cX12_readTest 97 = .ok (.iload_n 1, 1) := by decide +kernel
theorem dX12_readTest_98 : decode cX12_readTest 98 = .ok (.iconst 2, 1) := by decide +kernel
theorem dX12_readTest_99 : decode cX12_readTest 99 = .ok (.iadd, 1) := by decide +kernel
theorem dX12_readTest_100 : decode cX12_readTest 100 = .ok (.aload_n 0, 1) := by decide +kernel
theorem dX12_readTest_101 : decode cX12_readTest 101 = .ok (.iconst 0, 1) := by decide +kernel
theorem dX12_readTest_102 : decode cX12_readTest 102 = .ok (.aload_n 0, 1) := by decide +kernel
theorem dX12_readTest_103 : decode cX12_readTest 103 = .ok (.getfield 35, 3) := by decide +kernel
theorem dX12_readTest_106 : decode cX12_readTest 106 = .ok (.iconst 1, 1) := by decide +kernel
theorem dX12_readTest_107 : decode cX12_readTest 107 = .ok (.iaload, 1) := by decide +kernel
theorem dX12_readTest_108 : decode cX12_readTest 108 = .ok (.iconst 1, 1) := by decide +kernel
theorem dX12_readTest_109 : decode cX12_readTest 109 = .ok (.isub, 1) := by decide +kernel
theorem dX12_readTest_110 : decode cX12_readTest 110 = .ok (.invokevirtual 292, 3) := by decide +kernel
theorem dX12_readTest_113 : decode cX12_readTest 113 = .ok (.iastore, 1) := by decide +kernel
theorem dX12_readTest_114 : decode cX12_readTest 114 = .ok (.aload_n 0, 1) := by decide +kernel
theorem dX12_readTest_115 : decode cX12_readTest 115 = .ok (.iload_n 1, 1) := by decide +kernel
theorem dX12_readTest_116 : decode cX12_readTest 116 = .ok (.bipush 99, 2) := by decide +kernel
theorem dX12_readTest_118 : decode cX12_readTest 118 = .ok (.invokevirtual 442, 3) := by decide +kernel
theorem dX12_readTest_121 : decode cX12_readTest 121 = .ok (.goto 86, 3) := by decide +kernel
theorem dX12_readTest_124 : decode cX12_readTest 124 = .ok (.iload_n 2, 1) := by decide +kernel
theorem dX12_readTest_125 : decode cX12_readTest 125 = .ok (.iconst 1, 1) := by decide +kernel
theorem dX12_readTest_126 : decode cX12_readTest 126 = .ok (.if_icmp .ne 48, 3) := by decide +kernel
theorem dX12_readTest_129 : decode cX12_readTest 129 = .ok (.aload_n 0, 1) := by decide +kernel
theorem dX12_readTest_130 : decode cX12_readTest 130 = .ok (.getfield 35, 3) := by decide +kernel
theorem dX12_readTest_133 : decode cX12_readTest 133 = .ok (.iload_n 1, 1) := by decide +kernel
theorem dX12_readTest_134 : decode cX12_readTest 134 = .ok (.iconst 1, 1) := by decide +kernel
theorem dX12_readTest_135 : decode cX12_readTest 135 = .ok (.iadd, 1) := by decide +kernel
theorem dX12_readTest_136 : decode cX12_readTest 136 = .ok (.aload_n 0, 1) := by decide +kernel
theorem dX12_readTest_137 : decode cX12_readTest 137 = .ok (.invokevirtual 445, 3) := by decide +kernel
theorem dX12_readTest_140 : decode cX12_readTest 140 = .ok (.iastore, 1) := by decide +kernel
theorem dX12_readTest_141 : decode cX12_readTest 141 = .ok (.aload_n 0, 1) := by decide +kernel
theorem dX12_readTest_142 : decode cX12_readTest 142 = .ok (.aload_n 0, 1) := by decide +kernel
theorem dX12_readTest_143 : decode cX12_readTest 143 = .ok (.invokevirtual 208, 3) := by decide +kernel
theorem dX12_readTest_146 : decode cX12_readTest 146 = .ok (.invokevirtual 265, 3) := by decide +kernel
theorem dX12_readTest_149 : decode cX12_readTest 149 = .ok (.aload_n 0, 1) := by decide +kernel
theorem dX12_readTest_150 : decode cX12_readTest 150 = .ok (.getfield 35, 3) := by decide +kernel
theorem dX12_readTest_153 : decode cX12_readTest 153 = .ok (.iload_n 1, 1) := by decide +kernel
theorem dX12_readTest_154 : decode cX12_readTest 154 = .ok (.iconst 2, 1) := by decide +kernel
theorem dX12_readTest_155 : decode cX12_readTest 155 = .ok (.iadd, 1) := by decide +kernel
theorem dX12_readTest_156 : decode cX12_readTest 156 = .ok (.aload_n 0, 1) := by decide +kernel
theorem dX12_readTest_157 : decode cX12_readTest 157 = .ok (.iconst 0, 1) := by decide +kernel
theorem dX12_readTest_158 : decode cX12_readTest 158 = .ok (.bipush 8, 2) := by decide +kernel
theorem dX12_readTest_160 : decode cX12_readTest 160 = .ok (.invokevirtual 292, 3) := by decide +kernel
theorem dX12_readTest_163 : decode cX12_readTest 163 = .ok (.iastore, 1) := by decide +kernel
theorem dX12_readTest_164 : decode cX12_readTest 164 = .ok (.aload_n 0, 1) := by decide +kernel
theorem dX12_readTest_165 : decode cX12_readTest 165 = .ok (.iload_n 1, 1) := by decide +kernel
theorem dX12_readTest_166 : decode cX12_readTest 166 = .ok (.bipush 99, 2) := by decide +kernel
theorem dX12_readTest_168 : decode cX12_readTest 168 = .ok (.invokevirtual 442, 3) := by decide +kernel
theorem dX12_readTest_171 : decode cX12_readTest 171 = .ok (.goto 36, 3) := by decide +kernel
theorem dX12_readTest_174 : decode cX12_readTest 174 = .ok (.iload_n 2, 1) := by decide +kernel
theorem dX12_readTest_175 : decode cX12_readTest 175 = .ok (.iconst 2, 1) := by decide +kernel
theorem dX12_readTest_176 : decode cX12_readTest 176 = .ok (.if_icmp .ne 18, 3) := by decide +kernel
theorem dX12_readTest_179 : decode cX12_readTest 179 = .ok (.aload_n 0, 1) := by decide +kernel
theorem dX12_readTest_180 : decode cX12_readTest 180 = .ok (.getfield 35, 3) := by decide +kernel
theorem dX12_readTest_183 : decode cX12_readTest 183 = .ok (.iload_n 1, 1) := by decide +kernel
theorem dX12_readTest_184 : decode cX12_readTest 184 = .ok (.iconst 1, 1) := by decide +kernel
theorem dX12_readTest_185 : decode cX12_readTest 185 = .ok (.iadd, 1) := by decide +kernel
theorem dX12_readTest_186 : decode cX12_readTest 186 = .ok (.aload_n 0, 1) := by decide +kernel
theorem dX12_readTest_187 : decode cX12_readTest 187 = .ok (.invokevirtual 445, 3) := by decide +kernel
theorem dX12_readTest_190 : decode cX12_readTest 190 = .ok (.iastore, 1) := by decide +kernel
theorem dX12_readTest_191 : decode cX12_readTest 191 = .ok (.goto 16, 3) := by decide +kernel
theorem dX12_readTest_194 : decode cX12_readTest 194 = .ok (.iload_n 2, 1) := by decide +kernel
theorem dX12_readTest_195 : decode cX12_readTest 195 = .ok (.iconst 3, 1) := by decide +kernel
theorem dX12_readTest_196 : decode cX12_readTest 196 = .ok (.if_icmp .ne 11, 3) := by decide +kernel
theorem dX12_readTest_199 : decode cX12_readTest 199 = .ok (.aload_n 0, 1) := by decide +kernel
theorem dX12_readTest_200 : decode cX12_readTest 200 = .ok (.iload_n 1, 1) := by decide +kernel
theorem dX12_readTest_201 : decode cX12_readTest 201 = .ok (.sipush 9999, 3) := by decide +kernel
theorem dX12_readTest_204 : decode cX12_readTest 204 = .ok (.invokevirtual 442, 3) := by decide +kernel
theorem dX12_readTest_207 : decode cX12_readTest 207 = .ok (.return_, 1) := by decide +kernel
theorem dX12_readRest_0 : decode cX12_readRest 0 = .ok (.aload_n 0, 1) := by decide +kernel
theorem dX12_readRest_1 : decode cX12_readRest 1 = .ok (.getfield 35, 3) := by decide +kernel
theorem dX12_readRest_4 : decode cX12_readRest 4 = .ok (.iload_n 1, 1) := by decide +kernel
theorem dX12_readRest_5 : decode cX12_readRest 5 = .ok (.iaload, 1) := by decide +kernel
theorem dX12_readRest_6 : decode cX12_readRest 6 = .ok (.istore_n 2, 1) := by decide +kernel
theorem dX12_readRest_7 : decode cX12_readRest 7 = .ok (.iload_n 2, 1) := by decide +kernel
theorem dX12_readRest_8 : decode cX12_readRest 8 = .ok (.ifCond .eq 8, 3) := by decide +kernel
theorem dX12_readRest_11 : decode cX12_readRest 11 = .ok (.iload_n 2, 1) := by decide +kernel
theorem dX12_readRest_12 : decode cX12_readRest 12 = .ok (.iconst 1, 1) := by decide +kernel
theorem dX12_readRest_13 : decode cX12_readRest 13 = .ok (.if_icmp .ne 90, 3) := by decide +kernel
theorem dX12_readRest_16 : decode cX12_readRest 16 = .ok (.aload_n 0, 1) := by decide +kernel
theorem dX12_readRest_17 : decode cX12_readRest 17 = .ok (.getfield 35, 3) := by decide +kernel
theorem dX12_readRest_20 : decode cX12_readRest 20 = .ok (.iload_n 1, 1) := by decide +kernel
theorem dX12_readRest_21 : decode cX12_readRest 21 = .ok (.iconst 1, 1) := by decide +kernel
theorem dX12_readRest_22 : decode cX12_readRest 22 = .ok (.iadd, 1) := by decide +kernel
theorem dX12_readRest_23 : decode cX12_readRest 23 = .ok (.aload_n 0, 1) := by decide +kernel
theorem dX12_readRest_24 : decode cX12_readRest 24 = .ok (.iconst 0, 1) := by decide +kernel
theorem dX12_readRest_25 : decode cX12_readRest 25 = .ok (.aload_n 0, 1) := by decide +kernel
theorem dX12_readRest_26 : decode cX12_readRest 26 = .ok (.getfield 35, 3) := by decide +kernel
theorem dX12_readRest_29 : decode cX12_readRest 29 = .ok (.iconst 0, 1) := by decide +kernel
theorem dX12_readRest_30 : decode cX12_readRest 30 = .ok (.iaload, 1) := by decide +kernel
theorem dX12_readRest_31 : decode cX12_readRest 31 = .ok (.iconst 1, 1) := by decide +kernel
theorem dX12_readRest_32 : decode cX12_readRest 32 = .ok (.isub, 1) := by decide +kernel
theorem dX12_readRest_33 : decode cX12_readRest 33 = .ok (.invokevirtual 292, 3) := by decide +kernel
theorem dX12_readRest_36 : decode cX12_readRest 36 = .ok (.iastore, 1) := by decide +kernel
theorem dX12_readRest_37 : decode cX12_readRest 37 = .ok (.aload_n 0, 1) := by decide +kernel
theorem dX12_readRest_38 : decode cX12_readRest 38 = .ok (.getfield 35, 3) := by decide +kernel
theorem dX12_readRest_41 : decode cX12_readRest 41 = .ok (.iload_n 1, 1) := by decide +kernel
theorem dX12_readRest_42 : decode cX12_readRest 42 = .ok (.iconst 2, 1) := by decide +kernel
theorem dX12_readRest_43 : decode cX12_readRest 43 = .ok (.iadd, 1) := by decide +kernel
theorem dX12_readRest_44 : decode cX12_readRest 44 = .ok (.aload_n 0, 1) := by decide +kernel
theorem dX12_readRest_45 : decode cX12_readRest 45 = .ok (.iconst 0, 1) := by decide +kernel
theorem dX12_readRest_46 : decode cX12_readRest 46 = .ok (.aload_n 0, 1) := by decide +kernel
theorem dX12_readRest_47 : decode cX12_readRest 47 = .ok (.getfield 35, 3) := by decide +kernel
theorem dX12_readRest_50 : decode cX12_readRest 50 = .ok (.iconst 1, 1) := by decide +kernel
theorem dX12_readRest_51 : decode cX12_readRest 51 = .ok (.iaload, 1) := by decide +kernel
theorem dX12_readRest_52 : decode cX12_readRest 52 = .ok (.iconst 1, 1) := by decide +kernel
theorem dX12_readRest_53 : decode cX12_readRest 53 = .ok (.isub, 1) := by decide +kernel
theorem dX12_readRest_54 : decode cX12_readRest 54 = .ok (.invokevirtual 292, 3) := by decide +kernel
theorem dX12_readRest_57 : decode cX12_readRest 57 = .ok (.iastore, 1) := by decide +kernel
theorem dX12_readRest_58 : decode cX12_readRest 58 = .ok (.aload_n 0, 1) := by decide +kernel
theorem dX12_readRest_59 : decode cX12_readRest 59 = .ok (.getfield 35, 3) := by decide +kernel
theorem dX12_readRest_62 : decode cX12_readRest 62 = .ok (.iload_n 1, 1) := by decide +kernel
theorem dX12_readRest_63 : decode cX12_readRest 63 = .ok (.iconst 3, 1) := by decide +kernel
theorem dX12_readRest_64 : decode cX12_readRest 64 = .ok (.iadd, 1) := by decide +kernel
theorem dX12_readRest_65 : decode cX12_readRest 65 = .ok (.iconst 1, 1) := by decide +kernel
theorem dX12_readRest_66 : decode cX12_readRest 66 = .ok (.iastore, 1) := by decide +kernel
theorem dX12_readRest_67 : decode cX12_readRest 67 = .ok (.aload_n 0, 1) := by decide +kernel
theorem dX12_readRest_68 : decode cX12_readRest 68 = .ok (.getfield 229, 3) := by decide +kernel
theorem dX12_readRest_71 : decode cX12_readRest 71 = .ok (.ifCond .ne 70, 3) := by decide +kernel
theorem dX12_readRest_74 : decode cX12_readRest 74 = .ok (.aload_n 0, 1) := by decide +kernel
theorem dX12_readRest_75 : decode cX12_readRest 75 = .ok (.invokevirtual 196, 3) := by decide +kernel
theorem dX12_readRest_78 : decode cX12_readRest 78 = .ok (.ifCond .eq 63, 3) := by decide +kernel
theorem dX12_readRest_81 : decode cX12_readRest 81 = .ok (.aload_n 0, 1) := by decide +kernel
theorem dX12_readRest_82 : decode cX12_readRest 82 = .ok (.invokevirtual 239, 3) := by decide +kernel
theorem dX12_readRest_85 : decode cX12_readRest 85 = .ok (.aload_n 0, 1) := by decide +kernel
theorem dX12_readRest_86 : decode cX12_readRest 86 = .ok (.getfield 35, 3) := by decide +kernel
theorem dX12_readRest_89 : decode cX12_readRest 89 = .ok (.iload_n 1, 1) := by decide +kernel
theorem dX12_readRest_90 : decode cX12_readRest 90 = .ok (.iconst 3, 1) := by decide +kernel
theorem dX12_readRest_91 : decode cX12_readRest 91 = .ok (.iadd, 1) := by decide +kernel
theorem dX12_readRest_92 : decode cX12_readRest 92 = .ok (.aload_n 0, 1) := by decide +kernel
theorem dX12_readRest_93 : decode cX12_readRest 93 = .ok (.iconst 1, 1) := by decide +kernel
theorem dX12_readRest_94 : decode cX12_readRest 94 = .ok (.bipush 99, 2) := by decide +kernel
theorem dX12_readRest_96 : decode cX12_readRest 96 = .ok (.invokevirtual 292, 3) := by decide +kernel
theorem dX12_readRest_99 : decode cX12_readRest 99 = .ok (.iastore, 1) := by decide +kernel
theorem dX12_readRest_100 : decode cX12_readRest 100 = .ok (.goto 41, 3) := by decide +kernel
theorem dX12_readRest_103 : decode cX12_readRest 103 = .ok (.iload_n 2, 1) := by decide +kernel
theorem dX12_readRest_104 : decode cX12_readRest 104 = .ok (.iconst 2, 1) := by decide +kernel
theorem dX12_readRest_105 : decode cX12_readRest 105 = .ok (.if_icmp .eq 8, 3) := by decide +kernel
theorem dX12_readRest_108 : decode cX12_readRest 108 = .ok (.iload_n 2, 1) := by decide +kernel
theorem dX12_readRest_109 : decode cX12_readRest 109 = .ok (.iconst 4, 1) := by decide +kernel
theorem dX12_readRest_110 : decode cX12_readRest 110 = .ok (.if_icmp .ne 21, 3) := by decide +kernel
theorem dX12_readRest_113 : decode cX12_readRest 113 = .ok (.aload_n 0, 1) := by decide +kernel
theorem dX12_readRest_114 : decode cX12_readRest 114 = .ok (.getfield 35, 3) := by decide +kernel
theorem dX12_readRest_117 : decode cX12_readRest 117 = .ok (.iload_n 1, 1) := by decide +kernel
theorem dX12_readRest_118 : decode cX12_readRest 118 = .ok (.iconst 3, 1) := by decide +kernel
theorem dX12_readRest_119 : decode cX12_readRest 119 = .ok (.iadd, 1) := by decide +kernel
theorem dX12_readRest_120 : decode cX12_readRest 120 = .ok (.aload_n 0, 1) := by decide +kernel
theorem dX12_readRest_121 : decode cX12_readRest 121 = .ok (.iconst 1, 1) := by decide +kernel
theorem dX12_readRest_122 : decode cX12_readRest 122 = .ok (.bipush 99, 2) := by decide +kernel
theorem dX12_readRest_124 : decode cX12_readRest 124 = .ok (.invokevirtual 292, 3) := by decide +kernel
theorem dX12_readRest_127 : decode cX12_readRest 127 = .ok (.iastore, 1) := by decide +kernel
theorem dX12_readRest_128 : decode cX12_readRest 128 = .ok (.goto 13, 3) := by decide +kernel
theorem dX12_readRest_131 : decode cX12_readRest 131 = .ok (.iload_n 2, 1) := by decide +kernel
theorem dX12_readRest_132 : decode cX12_readRest 132 = .ok (.iconst 3, 1) := by decide +kernel
theorem dX12_readRest_133 : decode cX12_readRest 133 = .ok (.if_icmp .ne 8, 3) := by decide +kernel
theorem dX12_readRest_136 : decode cX12_readRest 136 = .ok (.aload_n 0, 1) := by decide +kernel
theorem dX12_readRest_137 : decode cX12_readRest 137 = .ok (.iload_n 1, 1) := by decide +kernel
theorem dX12_readRest_138 : decode cX12_readRest 138 = .ok (.invokevirtual 448, 3) := by decide +kernel
theorem dX12_readRest_141 : decode cX12_readRest 141 = .ok (.return_, 1) := by decide +kernel
theorem dX12_readStep_0 : decode cX12_readStep 0 = .ok (.aload_n 0, 1) := by decide +kernel
theorem dX12_readStep_1 : decode cX12_readStep 1 = .ok (.invokevirtual 190, 3) := by decide +kernel
theorem dX12_readStep_4 : decode cX12_readStep 4 = .ok (.ifCond .eq 7, 3) := by decide +kernel
theorem dX12_readStep_7 : decode cX12_readStep 7 = .ok (.iconst 0, 1) := by decide +kernel
theorem dX12_readStep_8 : decode cX12_readStep 8 = .ok (.goto 59, 3) := by decide +kernel
theorem dX12_readStep_11 : decode cX12_readStep 11 = .ok (.aload_n 0, 1) := by decide +kernel
theorem dX12_readStep_12 : decode cX12_readStep 12 = .ok (.invokevirtual 193, 3) := by decide +kernel
theorem dX12_readStep_15 : decode cX12_readStep 15 = .ok (.ifCond .eq 7, 3) := by decide +kernel
theorem dX12_readStep_18 : decode cX12_readStep 18 = .ok (.iconst 1, 1) := by decide +kernel
theorem dX12_readStep_19 : decode cX12_readStep 19 = .ok (.goto 48, 3) := by decide +kernel
theorem dX12_readStep_22 : decode cX12_readStep 22 = .ok (.aload_n 0, 1) := by decide +kernel
theorem dX12_readStep_23 : decode cX12_readStep 23 = .ok (.invokevirtual 199, 3) := by decide +kernel
theorem dX12_readStep_26 : decode cX12_readStep 26 = .ok (.ifCond .eq 7, 3) := by decide +kernel
theorem dX12_readStep_29 : decode cX12_readStep 29 = .ok (.iconst 2, 1) := by decide +kernel
theorem dX12_readStep_30 : decode cX12_readStep 30 = .ok (.goto 37, 3) := by decide +kernel
theorem dX12_readStep_33 : decode cX12_readStep 33 = .ok (.aload_n 0, 1) := by decide +kernel
theorem dX12_readStep_34 : decode cX12_readStep 34 = .ok (.invokevirtual 202, 3) := by decide +kernel
theorem dX12_readStep_37 : decode cX12_readStep 37 = .ok (.ifCond .eq 7, 3) := by decide +kernel
theorem dX12_readStep_40 : decode cX12_readStep 40 = .ok (.iconst 3, 1) := by decide +kernel
theorem dX12_readStep_41 : decode cX12_readStep 41 = .ok (.goto 26, 3) := by decide +kernel
theorem dX12_readStep_44 : decode cX12_readStep 44 = .ok (.aload_n 0, 1) := by decide +kernel
theorem dX12_readStep_45 : decode cX12_readStep 45 = .ok (.invokevirtual 217, 3) := by decide +kernel
theorem dX12_readStep_48 : decode cX12_readStep 48 = .ok (.ifCond .eq 7, 3) := by decide +kernel
theorem dX12_readStep_51 : decode cX12_readStep 51 = .ok (.iconst 4, 1) := by decide +kernel
theorem dX12_readStep_52 : decode cX12_readStep 52 = .ok (.goto 15, 3) := by decide +kernel
theorem dX12_readStep_55 : decode cX12_readStep 55 = .ok (.aload_n 0, 1) := by decide +kernel
theorem dX12_readStep_56 : decode cX12_readStep 56 = .ok (.invokevirtual 223, 3) := by decide +kernel
theorem dX12_readStep_59 : decode cX12_readStep 59 = .ok (.ifCond .eq 7, 3) := by decide +kernel
theorem dX12_readStep_62 : decode cX12_readStep 62 = .ok (.iconst 5, 1) := by decide +kernel
theorem dX12_readStep_63 : decode cX12_readStep 63 = .ok (.goto 4, 3) := by decide +kernel
theorem dX12_readStep_66 : decode cX12_readStep 66 = .ok (.iconst (-1), 1) := by decide +kernel
theorem dX12_readStep_67 : decode cX12_readStep 67 = .ok (.istore_n 2, 1) := by decide +kernel
theorem dX12_readStep_68 : decode cX12_readStep 68 = .ok (.iload_n 2, 1) := by decide +kernel
theorem dX12_readStep_69 : decode cX12_readStep 69 = .ok (.iconst 3, 1) := by decide +kernel
theorem dX12_readStep_70 : decode cX12_readStep 70 = .ok (.if_icmp .eq 8, 3) := by decide +kernel
theorem dX12_readStep_73 : decode cX12_readStep 73 = .ok (.iload_n 2, 1) := by decide +kernel
theorem dX12_readStep_74 : decode cX12_readStep 74 = .ok (.iconst 4, 1) := by decide +kernel
theorem dX12_readStep_75 : decode cX12_readStep 75 = .ok (.if_icmp .ne 7, 3) := by decide +kernel
theorem dX12_readStep_78 : decode cX12_readStep 78 = .ok (.iconst 1, 1) := by decide +kernel
theorem dX12_readStep_79 : decode cX12_readStep 79 = .ok (.goto 4, 3) := by decide +kernel
theorem dX12_readStep_82 : decode cX12_readStep 82 = .ok (.iconst 0, 1) := by decide +kernel
theorem dX12_readStep_83 : decode cX12_readStep 83 = .ok (.istore_n 3, 1) := by decide +kernel
theorem dX12_readStep_84 : decode cX12_readStep 84 = .ok (.iload_n 2, 1) := by decide +kernel
theorem dX12_readStep_85 : decode cX12_readStep 85 = .ok (.ifCond .ge 7, 3) := by decide +kernel
theorem dX12_readStep_88 : decode cX12_readStep 88 = .ok (.aload_n 0, 1) := by decide +kernel
theorem dX12_readStep_89 : decode cX12_readStep 89 = .ok (.invokevirtual 242, 3) := by decide +kernel
theorem dX12_readStep_92 : decode cX12_readStep 92 = .ok (.aload_n 0, 1) := by decide +kernel
theorem dX12_readStep_93 : decode cX12_readStep 93 = .ok (.getfield 229, 3) := by decide +kernel
theorem dX12_readStep_96 : decode cX12_readStep 96 = .ok (.ifCond .ne 22, 3) := by decide +kernel
theorem dX12_readStep_99 : decode cX12_readStep 99 = .ok (.aload_n 0, 1) := by decide +kernel
theorem dX12_readStep_100 : decode cX12_readStep 100 = .ok (.getfield 451, 3) := by decide +kernel
theorem dX12_readStep_103 : decode cX12_readStep 103 = .ok (.bipush 30, 2) := by decide +kernel
theorem dX12_readStep_105 : decode cX12_readStep 105 = .ok (.if_icmp .ne 13, 3) := by decide +kernel
theorem dX12_readStep_108 : decode cX12_readStep 108 = .ok (.aload_n 0, 1) := by decide +kernel
theorem dX12_readStep_109 : decode cX12_readStep 109 = .ok (.bipush 6, 2) := by decide +kernel
theorem dX12_readStep_111 : decode cX12_readStep 111 = .ok (.aload_n 0, 1) := by decide +kernel
theorem dX12_readStep_112 : decode cX12_readStep 112 = .ok (.getfield 126, 3) := by decide +kernel
theorem dX12_readStep_115 : decode cX12_readStep 115 = .ok (.invokevirtual 235, 3) := by decide +kernel
theorem dX12_readStep_118 : decode cX12_readStep 118 = .ok (.aload_n 0, 1) := by decide +kernel
theorem dX12_readStep_119 : decode cX12_readStep 119 = .ok (.getfield 229, 3) := by decide +kernel
theorem dX12_readStep_122 : decode cX12_readStep 122 = .ok (.ifCond .ne 22, 3) := by decide +kernel
theorem dX12_readStep_125 : decode cX12_readStep 125 = .ok (.iload_n 3, 1) := by decide +kernel
theorem dX12_readStep_126 : decode cX12_readStep 126 = .ok (.ifCond .eq 18, 3) := by decide +kernel
theorem dX12_readStep_129 : decode cX12_readStep 129 = .ok (.iload_n 1, 1) := by decide +kernel
theorem dX12_readStep_130 : decode cX12_readStep 130 = .ok (.iconst 3, 1) := by decide +kernel
theorem dX12_readStep_131 : decode cX12_readStep 131 = .ok (.if_icmp .ne 13, 3) := by decide +kernel
theorem dX12_readStep_134 : decode cX12_readStep 134 = .ok (.aload_n 0, 1) := by decide +kernel
theorem dX12_readStep_135 : decode cX12_readStep 135 = .ok (.bipush 7, 2) := by decide +kernel
theorem dX12_readStep_137 : decode cX12_readStep 137 = .ok (.aload_n 0, 1) := by decide +kernel
theorem dX12_readStep_138 : decode cX12_readStep 138 = .ok (.getfield 126, 3) := by decide +kernel
theorem dX12_readStep_141 : decode cX12_readStep 141 = .ok (.invokevirtual 235, 3) := by decide +kernel
theorem dX12_readStep_144 : decode cX12_readStep 144 = .ok (.aload_n 0, 1) := by decide +kernel
theorem dX12_readStep_145 : decode cX12_readStep 145 = .ok (.getfield 229, 3) := by decide +kernel
theorem dX12_readStep_148 : decode cX12_readStep 148 = .ok (.ifCond .le 4, 3) := by decide +kernel
theorem dX12_readStep_151 : decode cX12_readStep 151 = .ok (.return_, 1) := by decide +kernel
theorem dX12_readStep_152 : decode cX12_readStep 152 = .ok (.sipush 1819, 3) := by decide +kernel
theorem dX12_readStep_155 : decode cX12_readStep 155 = .ok (.bipush 8, 2) := by decide +kernel
theorem dX12_readStep_157 : decode cX12_readStep 157 = .ok (.aload_n 0, 1) := by decide +kernel
theorem dX12_readStep_158 : decode cX12_readStep 158 = .ok (.getfield 451, 3) := by decide +kernel
theorem dX12_readStep_161 : decode cX12_readStep 161 = .ok (.imul, 1) := by decide +kernel
theorem dX12_readStep_162 : decode cX12_readStep 162 = .ok (.iadd, 1) := by decide +kernel
theorem dX12_readStep_163 : decode cX12_readStep 163 = .ok (.istore 4, 2) := by decide +kernel
theorem dX12_readStep_165 : decode cX12_readStep 165 = .ok (.aload_n 0, 1) := by decide +kernel
theorem dX12_readStep_166 : decode cX12_readStep 166 = .ok (.dup, 1) := by decide +kernel
theorem dX12_readStep_167 : decode cX12_readStep 167 = .ok (.getfield 451, 3) := by decide +kernel
theorem dX12_readStep_170 : decode cX12_readStep 170 = .ok (.iconst 1, 1) := by decide +kernel
theorem dX12_readStep_171 : decode cX12_readStep 171 = .ok (.iadd, 1) := by decide +kernel
theorem dX12_readStep_172 : decode cX12_readStep 172 = .ok (.putfield 451, 3) := by decide +kernel
theorem dX12_readStep_175 : decode cX12_readStep 175 = .ok (.aload_n 0, 1) := by decide +kernel
theorem dX12_readStep_176 : decode cX12_readStep 176 = .ok (.invokevirtual 239, 3) := by decide +kernel
theorem dX12_readStep_179 : decode cX12_readStep 179 = .ok (.aload_n 0, 1) := by decide +kernel
theorem dX12_readStep_180 : decode cX12_readStep 180 = .ok (.getfield 35, 3) := by decide +kernel
theorem dX12_readStep_183 : decode cX12_readStep 183 = .ok (.iload 4, 2) := by decide +kernel
theorem dX12_readStep_185 : decode cX12_readStep 185 = .ok (.iload_n 2, 1) := by decide +kernel
theorem dX12_readStep_186 : decode cX12_readStep 186 = .ok (.iastore, 1) := by decide +kernel
theorem dX12_readStep_187 : decode cX12_readStep 187 = .ok (.aload_n 0, 1) := by decide +kernel
theorem dX12_readStep_188 : decode cX12_readStep 188 = .ok (.iload 4, 2) := by decide +kernel
theorem dX12_readStep_190 : decode cX12_readStep 190 = .ok (.invokevirtual 454, 3) := by decide +kernel
theorem dX12_readStep_193 : decode cX12_readStep 193 = .ok (.aload_n 0, 1) := by decide +kernel
theorem dX12_readStep_194 : decode cX12_readStep 194 = .ok (.aload_n 0, 1) := by decide +kernel
theorem dX12_readStep_195 : decode cX12_readStep 195 = .ok (.bipush 59, 2) := by decide +kernel
theorem dX12_readStep_197 : decode cX12_readStep 197 = .ok (.invokevirtual 252, 3) := by decide +kernel
theorem dX12_readStep_200 : decode cX12_readStep 200 = .ok (.invokevirtual 265, 3) := by decide +kernel
theorem dX12_readStep_203 : decode cX12_readStep 203 = .ok (.iload_n 3, 1) := by decide +kernel
theorem dX12_readStep_204 : decode cX12_readStep 204 = .ok (.ifCond .eq 27, 3) := by decide +kernel
theorem dX12_readStep_207 : decode cX12_readStep 207 = .ok (.aload_n 0, 1) := by decide +kernel
theorem dX12_readStep_208 : decode cX12_readStep 208 = .ok (.getfield 229, 3) := by decide +kernel
theorem dX12_readStep_211 : decode cX12_readStep 211 = .ok (.ifCond .ne 20, 3) := by decide +kernel
theorem dX12_readStep_214 : decode cX12_readStep 214 = .ok (.aload_n 0, 1) := by decide +kernel
theorem dX12_readStep_215 : decode cX12_readStep 215 = .ok (.invokevirtual 220, 3) := by decide +kernel
theorem dX12_readStep_218 : decode cX12_readStep 218 = .ok (.ifCond .ne 13, 3) := by decide +kernel
theorem dX12_readStep_221 : decode cX12_readStep 221 = .ok (.aload_n 0, 1) := by decide +kernel
theorem dX12_readStep_222 : decode cX12_readStep 222 = .ok (.iload_n 1, 1) := by decide +kernel
theorem dX12_readStep_223 : decode cX12_readStep 223 = .ok (.iconst 1, 1) := by decide +kernel
theorem dX12_readStep_224 : decode cX12_readStep 224 = .ok (.iadd, 1) := by decide +kernel
theorem dX12_readStep_225 : decode cX12_readStep 225 = .ok (.invokevirtual 457, 3) := by decide +kernel
theorem dX12_readStep_228 : decode cX12_readStep 228 = .ok (.goto (-25), 3) := by decide +kernel
theorem dX12_readStep_231 : decode cX12_readStep 231 = .ok (.iload_n 3, 1) := by decide +kernel
theorem dX12_readStep_232 : decode cX12_readStep 232 = .ok (.ifCond .eq 21, 3) := by decide +kernel
theorem dX12_readStep_235 : decode cX12_readStep 235 = .ok (.aload_n 0, 1) := by decide +kernel
theorem dX12_readStep_236 : decode cX12_readStep 236 = .ok (.aload_n 0, 1) := by decide +kernel
theorem dX12_readStep_237 : decode cX12_readStep 237 = .ok (.invokevirtual 220, 3) := by decide +kernel
theorem dX12_readStep_240 : decode cX12_readStep 240 = .ok (.invokevirtual 265, 3) := by decide +kernel
theorem dX12_readStep_243 : decode cX12_readStep 243 = .ok (.aload_n 0, 1) := by decide +kernel
theorem dX12_readStep_244 : decode cX12_readStep 244 = .ok (.aload_n 0, 1) := by decide +kernel
theorem dX12_readStep_245 : decode cX12_readStep 245 = .ok (.bipush 59, 2) := by decide +kernel
theorem dX12_readStep_247 : decode cX12_readStep 247 = .ok (.invokevirtual 252, 3) := by decide +kernel
theorem dX12_readStep_250 : decode cX12_readStep 250 = .ok (.invokevirtual 265, 3) := by decide +kernel
theorem dX12_readStep_253 : decode cX12_readStep 253 = .ok (.aload_n 0, 1) := by decide +kernel
theorem dX12_readStep_254 : decode cX12_readStep 254 = .ok (.getfield 35, 3) := by decide +kernel
theorem dX12_readStep_257 : decode cX12_readStep 257 = .ok (.iload 4, 2) := by decide +kernel
theorem dX12_readStep_259 : decode cX12_readStep 259 = .ok (.bipush 7, 2) := by decide +kernel
theorem dX12_readStep_261 : decode cX12_readStep 261 = .ok (.iadd, 1) := by decide +kernel
theorem dX12_readStep_262 : decode cX12_readStep 262 = .ok (.aload_n 0, 1) := by decide +kernel
theorem dX12_readStep_263 : decode cX12_readStep 263 = .ok (.getfield 451, 3) := by decide +kernel
theorem dX12_readStep_266 : decode cX12_readStep 266 = .ok (.iastore, 1) := by decide +kernel
theorem dX12_readStep_267 : decode cX12_readStep 267 = .ok (.return_, 1) := by decide +kernel
theorem dX12_orders_0 : decode cX12_orders 0 = .ok (.aload_n 0, 1) := by decide +kernel
theorem dX12_orders_1 : decode cX12_orders 1 = .ok (.iconst 0, 1) := by decide +kernel
theorem dX12_orders_2 : decode cX12_orders 2 = .ok (.putfield 81, 3) := by decide +kernel
theorem dX12_orders_5 : decode cX12_orders 5 = .ok (.aload_n 0, 1) := by decide +kernel
theorem dX12_orders_6 : decode cX12_orders 6 = .ok (.iconst 0, 1) := by decide +kernel
theorem dX12_orders_7 : decode cX12_orders 7 = .ok (.putfield 84, 3) := by decide +kernel
theorem dX12_orders_10 : decode cX12_orders 10 = .ok (.aload_n 0, 1) := by decide +kernel
theorem dX12_orders_11 : decode cX12_orders 11 = .ok (.iload_n 1, 1) := by decide +kernel
theorem dX12_orders_12 : decode cX12_orders 12 = .ok (.sipush 300, 3) := by decide +kernel
theorem dX12_orders_15 : decode cX12_orders 15 = .ok (.invokevirtual 273, 3) := by decide +kernel
theorem dX12_orders_18 : decode cX12_orders 18 = .ok (.ifCond .ne 5, 3) := by decide +kernel
theorem dX12_orders_21 : decode cX12_orders 21 = .ok (.iconst (-1), 1) := by decide +kernel
theorem dX12_orders_22 : decode cX12_orders 22 = .ok (.ireturn, 1) := by decide +kernel
theorem dX12_orders_23 : decode cX12_orders 23 = .ok (.aload_n 0, 1) := by decide +kernel
theorem dX12_orders_24 : decode cX12_orders 24 = .ok (.iconst 0, 1) := by decide +kernel
theorem dX12_orders_25 : decode cX12_orders 25 = .ok (.putfield 451, 3) := by decide +kernel
theorem dX12_orders_28 : decode cX12_orders 28 = .ok (.aload_n 0, 1) := by decide +kernel
theorem dX12_orders_29 : decode cX12_orders 29 = .ok (.getfield 229, 3) := by decide +kernel
theorem dX12_orders_32 : decode cX12_orders 32 = .ok (.ifCond .ne 18, 3) := by decide +kernel
theorem dX12_orders_35 : decode cX12_orders 35 = .ok (.aload_n 0, 1) := by decide +kernel
theorem dX12_orders_36 : decode cX12_orders 36 = .ok (.getfield 132, 3) := by decide +kernel
theorem dX12_orders_39 : decode cX12_orders 39 = .ok (.ifCond .eq 11, 3) := by decide +kernel
theorem dX12_orders_42 : decode cX12_orders 42 = .ok (.aload_n 0, 1) := by decide +kernel
theorem dX12_orders_43 : decode cX12_orders 43 = .ok (.iconst 0, 1) := by decide +kernel
theorem dX12_orders_44 : decode cX12_orders 44 = .ok (.invokevirtual 457, 3) := by decide +kernel
theorem dX12_orders_47 : decode cX12_orders 47 = .ok (.goto (-19), 3) := by decide +kernel
theorem dX12_orders_50 : decode cX12_orders 50 = .ok (.aload_n 0, 1) := by decide +kernel
theorem dX12_orders_51 : decode cX12_orders 51 = .ok (.invokevirtual 302, 3) := by decide +kernel
theorem dX12_orders_54 : decode cX12_orders 54 = .ok (.ifCond .ne 5, 3) := by decide +kernel
theorem dX12_orders_57 : decode cX12_orders 57 = .ok (.iconst (-1), 1) := by decide +kernel
theorem dX12_orders_58 : decode cX12_orders 58 = .ok (.ireturn, 1) := by decide +kernel
theorem dX12_orders_59 : decode cX12_orders 59 = .ok (.aload_n 0, 1) := by decide +kernel
theorem dX12_orders_60 : decode cX12_orders 60 = .ok (.getfield 35, 3) := by decide +kernel
theorem dX12_orders_63 : decode cX12_orders 63 = .ok (.sipush 169, 3) := by decide +kernel
theorem dX12_orders_66 : decode cX12_orders 66 = .ok (.iconst 1, 1) := by decide +kernel
theorem dX12_orders_67 : decode cX12_orders 67 = .ok (.iastore, 1) := by decide +kernel
theorem dX12_orders_68 : decode cX12_orders 68 = .ok (.aload_n 0, 1) := by decide +kernel
theorem dX12_orders_69 : decode cX12_orders 69 = .ok (.getfield 35, 3) := by decide +kernel
theorem dX12_orders_72 : decode cX12_orders 72 = .ok (.sipush 170, 3) := by decide +kernel
theorem dX12_orders_75 : decode cX12_orders 75 = .ok (.aload_n 0, 1) := by decide +kernel
theorem dX12_orders_76 : decode cX12_orders 76 = .ok (.getfield 451, 3) := by decide +kernel
theorem dX12_orders_79 : decode cX12_orders 79 = .ok (.iastore, 1) := by decide +kernel
theorem dX12_orders_80 : decode cX12_orders 80 = .ok (.iconst 0, 1) := by decide +kernel
theorem dX12_orders_81 : decode cX12_orders 81 = .ok (.istore_n 2, 1) := by decide +kernel
theorem dX12_orders_82 : decode cX12_orders 82 = .ok (.iload_n 2, 1) := by decide +kernel
theorem dX12_orders_83 : decode cX12_orders 83 = .ok (.bipush 8, 2) := by decide +kernel
theorem dX12_orders_85 : decode cX12_orders 85 = .ok (.aload_n 0, 1) := by decide +kernel
theorem dX12_orders_86 : decode cX12_orders 86 = .ok (.getfield 451, 3) := by decide +kernel
theorem dX12_orders_89 : decode cX12_orders 89 = .ok (.imul, 1) := by decide +kernel
theorem dX12_orders_90 : decode cX12_orders 90 = .ok (.if_icmp .ge 29, 3) := by decide +kernel
theorem dX12_orders_93 : decode cX12_orders 93 = .ok (.aload_n 0, 1) := by decide +kernel
theorem dX12_orders_94 : decode cX12_orders 94 = .ok (.getfield 35, 3) := by decide +kernel
theorem dX12_orders_97 : decode cX12_orders 97 = .ok (.sipush 171, 3) := by decide +kernel
theorem dX12_orders_100 : decode cX12_orders 100 = .ok (.iload_n 2, 1) := by decide +kernel
theorem dX12_orders_101 : decode cX12_orders 101 = .ok (.iadd, 1) := by decide +kernel
theorem dX12_orders_102 : decode cX12_orders 102 = .ok (.aload_n 0, 1) := by decide +kernel
theorem dX12_orders_103 : decode cX12_orders 103 = .ok (.getfield 35, 3) := by decide +kernel
theorem dX12_orders_106 : decode cX12_orders 106 = .ok (.sipush 1819, 3) := by decide +kernel
theorem dX12_orders_109 : decode cX12_orders 109 = .ok (.iload_n 2, 1) := by decide +kernel
theorem dX12_orders_110 : decode cX12_orders 110 = .ok (.iadd, 1) := by decide +kernel
theorem dX12_orders_111 : decode cX12_orders 111 = .ok (.iaload, 1) := by decide +kernel
theorem dX12_orders_112 : decode cX12_orders 112 = .ok (.iastore, 1) := by decide +kernel
theorem dX12_orders_113 : decode cX12_orders 113 = .ok (.iinc 2 1, 3) := by decide +kernel
theorem dX12_orders_116 : decode cX12_orders 116 = .ok (.goto (-34), 3) := by decide +kernel
theorem dX12_orders_119 : decode cX12_orders 119 = .ok (.aload_n 0, 1) := by decide +kernel
theorem dX12_orders_120 : decode cX12_orders 120 = .ok (.getfield 451, 3) := by decide +kernel
theorem dX12_orders_123 : decode cX12_orders 123 = .ok (.ireturn, 1) := by decide +kernel
theorem dX12_draw_0 : decode cX12_draw 0 = .ok (.aload_n 0, 1) := by decide +kernel
theorem dX12_draw_1 : decode cX12_draw 1 = .ok (.aload_n 0, 1) := by decide +kernel
theorem dX12_draw_2 : decode cX12_draw 2 = .ok (.getfield 460, 3) := by decide +kernel
theorem dX12_draw_5 : decode cX12_draw 5 = .ok (.sipush 2861, 3) := by decide +kernel
theorem dX12_draw_8 : decode cX12_draw 8 = .ok (.imul, 1) := by decide +kernel
theorem dX12_draw_9 : decode cX12_draw 9 = .ok (.sipush 12007, 3) := by decide +kernel
theorem dX12_draw_12 : decode cX12_draw 12 = .ok (.iadd, 1) := by decide +kernel
theorem dX12_draw_13 : decode cX12_draw 13 = .ok (.ldc_w 463, 3) := by decide +kernel
theorem dX12_draw_16 : decode cX12_draw 16 = .ok (.irem, 1) := by decide +kernel
theorem dX12_draw_17 : decode cX12_draw 17 = .ok (.putfield 460, 3) := by decide +kernel
theorem dX12_draw_20 : decode cX12_draw 20 = .ok (.aload_n 0, 1) := by decide +kernel
theorem dX12_draw_21 : decode cX12_draw 21 = .ok (.getfield 460, 3) := by decide +kernel
theorem dX12_draw_24 : decode cX12_draw 24 = .ok (.bipush 8, 2) := by decide +kernel
theorem dX12_draw_26 : decode cX12_draw 26 = .ok (.idiv, 1) := by decide +kernel
theorem dX12_draw_27 : decode cX12_draw 27 = .ok (.iload_n 1, 1) := by decide +kernel
theorem dX12_draw_28 : decode cX12_draw 28 = .ok (.irem, 1) := by decide +kernel
theorem dX12_draw_29 : decode cX12_draw 29 = .ok (.ireturn, 1) := by decide +kernel
theorem dX12_change_0 : decode cX12_change 0 = .ok (.aload_n 0, 1) := by decide +kernel
theorem dX12_change_1 : decode cX12_change 1 = .ok (.getfield 35, 3) := by decide +kernel
theorem dX12_change_4 : decode cX12_change 4 = .ok (.sipush 144, 3) := by decide +kernel
theorem dX12_change_7 : decode cX12_change 7 = .ok (.iload_n 1, 1) := by decide +kernel
theorem dX12_change_8 : decode cX12_change 8 = .ok (.iadd, 1) := by decide +kernel
theorem dX12_change_9 : decode cX12_change 9 = .ok (.iaload, 1) := by decide +kernel
theorem dX12_change_10 : decode cX12_change 10 = .ok (.istore_n 3, 1) := by decide +kernel
theorem dX12_change_11 : decode cX12_change 11 = .ok (.aload_n 0, 1) := by decide +kernel
theorem dX12_change_12 : decode cX12_change 12 = .ok (.getfield 35, 3) := by decide +kernel
theorem dX12_change_15 : decode cX12_change 15 = .ok (.sipush 144, 3) := by decide +kernel
theorem dX12_change_18 : decode cX12_change 18 = .ok (.iload_n 1, 1) := by decide +kernel
theorem dX12_change_19 : decode cX12_change 19 = .ok (.iadd, 1) := by decide +kernel
theorem dX12_change_20 : decode cX12_change 20 = .ok (.iconst 0, 1) := by decide +kernel
theorem dX12_change_21 : decode cX12_change 21 = .ok (.bipush 99, 2) := by decide +kernel
theorem dX12_change_23 : decode cX12_change 23 = .ok (.iload_n 3, 1) := by decide +kernel
theorem dX12_change_24 : decode cX12_change 24 = .ok (.iload_n 2, 1) := by decide +kernel
theorem dX12_change_25 : decode cX12_change 25 = .ok (.iadd, 1) := by decide +kernel
theorem dX12_change_26 : decode cX12_change 26 = .ok (.invokestatic 354, 3) := by decide +kernel
theorem dX12_change_29 : decode cX12_change 29 = .ok (.invokestatic 342, 3) := by decide +kernel
theorem dX12_change_32 : decode cX12_change 32 = .ok (.iastore, 1) := by decide +kernel
theorem dX12_change_33 : decode cX12_change 33 = .ok (.iload_n 2, 1) := by decide +kernel
theorem dX12_change_34 : decode cX12_change 34 = .ok (.ifCond .le 27, 3) := by decide +kernel
theorem dX12_change_37 : decode cX12_change 37 = .ok (.aload_n 0, 1) := by decide +kernel
theorem dX12_change_38 : decode cX12_change 38 = .ok (.dup, 1) := by decide +kernel
theorem dX12_change_39 : decode cX12_change 39 = .ok (.getfield 464, 3) := by decide +kernel
theorem dX12_change_42 : decode cX12_change 42 = .ok (.aload_n 0, 1) := by decide +kernel
theorem dX12_change_43 : decode cX12_change 43 = .ok (.getfield 35, 3) := by decide +kernel
theorem dX12_change_46 : decode cX12_change 46 = .ok (.sipush 144, 3) := by decide +kernel
theorem dX12_change_49 : decode cX12_change 49 = .ok (.iload_n 1, 1) := by decide +kernel
theorem dX12_change_50 : decode cX12_change 50 = .ok (.iadd, 1) := by decide +kernel
theorem dX12_change_51 : decode cX12_change 51 = .ok (.iaload, 1) := by decide +kernel
theorem dX12_change_52 : decode cX12_change 52 = .ok (.iload_n 3, 1) := by decide +kernel
theorem dX12_change_53 : decode cX12_change 53 = .ok (.isub, 1) := by decide +kernel
theorem dX12_change_54 : decode cX12_change 54 = .ok (.iadd, 1) := by decide +kernel
theorem dX12_change_55 : decode cX12_change 55 = .ok (.putfield 464, 3) := by decide +kernel
theorem dX12_change_58 : decode cX12_change 58 = .ok (.goto 24, 3) := by decide +kernel
theorem dX12_change_61 : decode cX12_change 61 = .ok (.aload_n 0, 1) := by decide +kernel
theorem dX12_change_62 : decode cX12_change 62 = .ok (.dup, 1) := by decide +kernel
theorem dX12_change_63 : decode cX12_change 63 = .ok (.getfield 467, 3) := by decide +kernel
theorem dX12_change_66 : decode cX12_change 66 = .ok (.iload_n 3, 1) := by decide +kernel
theorem dX12_change_67 : decode cX12_change 67 = .ok (.aload_n 0, 1) := by decide +kernel
theorem dX12_change_68 : decode cX12_change 68 = .ok (.getfield 35, 3) := by decide +kernel
theorem dX12_change_71 : decode cX12_change 71 = .ok (.sipush 144, 3) := by decide +kernel
theorem dX12_change_74 : decode cX12_change 74 = .ok (.iload_n 1, 1) := by decide +kernel
theorem dX12_change_75 : decode cX12_change 75 = .ok (.iadd, 1) := by decide +kernel
theorem dX12_change_76 : decode cX12_change 76 = .ok (.iaload, 1) := by decide +kernel
theorem dX12_change_77 : decode cX12_change 77 = .ok (.isub, 1) := by decide +kernel
theorem dX12_change_78 : decode cX12_change 78 = .ok (.iadd, 1) := by decide +kernel
theorem dX12_change_79 : decode cX12_change 79 = .ok (.putfield 467, 3) := by decide +kernel
theorem dX12_change_82 : decode cX12_change 82 = .ok (.return_, 1) := by decide +kernel
theorem dX12_compares_0 : decode cX12_compares 0 = .ok (.aload_n 0, 1) := by decide +kernel
theorem dX12_compares_1 : decode cX12_compares 1 = .ok (.getfield 35, 3) := by decide +kernel
theorem dX12_compares_4 : decode cX12_compares 4 = .ok (.iload_n 2, 1) := by decide +kernel
theorem dX12_compares_5 : decode cX12_compares 5 = .ok (.iconst 5, 1) := by decide +kernel
theorem dX12_compares_6 : decode cX12_compares 6 = .ok (.iadd, 1) := by decide +kernel
theorem dX12_compares_7 : decode cX12_compares 7 = .ok (.iaload, 1) := by decide +kernel
theorem dX12_compares_8 : decode cX12_compares 8 = .ok (.bipush 60, 2) := by decide +kernel
theorem dX12_compares_10 : decode cX12_compares 10 = .ok (.if_icmp .ne 24, 3) := by decide +kernel
theorem dX12_compares_13 : decode cX12_compares 13 = .ok (.iload_n 1, 1) := by decide +kernel
theorem dX12_compares_14 : decode cX12_compares 14 = .ok (.aload_n 0, 1) := by decide +kernel
theorem dX12_compares_15 : decode cX12_compares 15 = .ok (.getfield 35, 3) := by decide +kernel
theorem dX12_compares_18 : decode cX12_compares 18 = .ok (.iload_n 2, 1) := by decide +kernel
theorem dX12_compares_19 : decode cX12_compares 19 = .ok (.bipush 6, 2) := by decide +kernel
theorem dX12_compares_21 : decode cX12_compares 21 = .ok (.iadd, 1) := by decide +kernel
theorem dX12_compares_22 : decode cX12_compares 22 = .ok (.iaload, 1) := by decide +kernel
theorem dX12_compares_23 : decode cX12_compares 23 = .ok (.if_icmp .ge 7, 3) := by decide +kernel
theorem dX12_compares_26 : decode cX12_compares 26 = .ok (.iconst 1, 1) := by decide +kernel
theorem dX12_compares_27 : decode cX12_compares 27 = .ok (.goto 59, 3) := by decide +kernel
theorem dX12_compares_30 : decode cX12_compares 30 = .ok (.iconst 0, 1) := by decide +kernel
theorem dX12_compares_31 : decode cX12_compares 31 = .ok (.goto 55, 3) := by decide +kernel
theorem dX12_compares_34 : decode cX12_compares 34 = .ok (.aload_n 0, 1) := by decide +kernel
theorem dX12_compares_35 : decode cX12_compares 35 = .ok (.getfield 35, 3) := by decide +kernel
theorem dX12_compares_38 : decode cX12_compares 38 = .ok (.iload_n 2, 1) := by decide +kernel
theorem dX12_compares_39 : decode cX12_compares 39 = .ok (.iconst 5, 1) := by decide +kernel
theorem dX12_compares_40 : decode cX12_compares 40 = .ok (.iadd, 1) := by decide +kernel
theorem dX12_compares_41 : decode cX12_compares 41 = .ok (.iaload, 1) := by decide +kernel
theorem dX12_compares_42 : decode cX12_compares 42 = .ok (.bipush 62, 2) := by decide +kernel
theorem dX12_compares_44 : decode cX12_compares 44 = .ok (.if_icmp .ne 24, 3) := by decide +kernel
theorem dX12_compares_47 : decode cX12_compares 47 = .ok (.iload_n 1, 1) := by decide +kernel
theorem dX12_compares_48 : decode cX12_compares 48 = .ok (.aload_n 0, 1) := by decide +kernel
theorem dX12_compares_49 : decode cX12_compares 49 = .ok (.getfield 35, 3) := by decide +kernel
theorem dX12_compares_52 : decode cX12_compares 52 = .ok (.iload_n 2, 1) := by decide +kernel
theorem dX12_compares_53 : decode cX12_compares 53 = .ok (.bipush 6, 2) := by decide +kernel
theorem dX12_compares_55 : decode cX12_compares 55 = .ok (.iadd, 1) := by decide +kernel
theorem dX12_compares_56 : decode cX12_compares 56 = .ok (.iaload, 1) := by decide +kernel
theorem dX12_compares_57 : decode cX12_compares 57 = .ok (.if_icmp .le 7, 3) := by decide +kernel
theorem dX12_compares_60 : decode cX12_compares 60 = .ok (.iconst 1, 1) := by decide +kernel
theorem dX12_compares_61 : decode cX12_compares 61 = .ok (.goto 25, 3) := by decide +kernel
theorem dX12_compares_64 : decode cX12_compares 64 = .ok (.iconst 0, 1) := by decide +kernel
theorem dX12_compares_65 : decode cX12_compares 65 = .ok (.goto 21, 3) := by decide +kernel
theorem dX12_compares_68 : decode cX12_compares 68 = .ok (.iload_n 1, 1) := by decide +kernel
theorem dX12_compares_69 : decode cX12_compares 69 = .ok (.aload_n 0, 1) := by decide +kernel
theorem dX12_compares_70 : decode cX12_compares 70 = .ok (.getfield 35, 3) := by decide +kernel
theorem dX12_compares_73 : decode cX12_compares 73 = .ok (.iload_n 2, 1) := by decide +kernel
theorem dX12_compares_74 : decode cX12_compares 74 = .ok (.bipush 6, 2) := by decide +kernel
theorem dX12_compares_76 : decode cX12_compares 76 = .ok (.iadd, 1) := by decide +kernel
theorem dX12_compares_77 : decode cX12_compares 77 = .ok (.iaload, 1) := by decide +kernel
theorem dX12_compares_78 : decode cX12_compares 78 = .ok (.if_icmp .ne 7, 3) := by decide +kernel
theorem dX12_compares_81 : decode cX12_compares 81 = .ok (.iconst 1, 1) := by decide +kernel
theorem dX12_compares_82 : decode cX12_compares 82 = .ok (.goto 4, 3) := by decide +kernel
theorem dX12_compares_85 : decode cX12_compares 85 = .ok (.iconst 0, 1) := by decide +kernel
theorem dX12_compares_86 : decode cX12_compares 86 = .ok (.ireturn, 1) := by decide +kernel
theorem dX12_seesSame_0 : decode cX12_seesSame 0 = .ok (.aload_n 0, 1) := by decide +kernel
theorem dX12_seesSame_1 : decode cX12_seesSame 1 = .ok (.iload_n 1, 1) := by decide +kernel
theorem dX12_seesSame_2 : decode cX12_seesSame 2 = .ok (.invokevirtual 308, 3) := by decide +kernel
theorem dX12_seesSame_5 : decode cX12_seesSame 5 = .ok (.ifCond .eq 15, 3) := by decide +kernel
theorem dX12_seesSame_8 : decode cX12_seesSame 8 = .ok (.aload_n 0, 1) := by decide +kernel
theorem dX12_seesSame_9 : decode cX12_seesSame 9 = .ok (.getfield 35, 3) := by decide +kernel
theorem dX12_seesSame_12 : decode cX12_seesSame 12 = .ok (.bipush 84, 2) := by decide +kernel
theorem dX12_seesSame_14 : decode cX12_seesSame 14 = .ok (.iload_n 1, 1) := by decide +kernel
theorem dX12_seesSame_15 : decode cX12_seesSame 15 = .ok (.iadd, 1) := by decide +kernel
theorem dX12_seesSame_16 : decode cX12_seesSame 16 = .ok (.iaload, 1) := by decide +kernel
theorem dX12_seesSame_17 : decode cX12_seesSame 17 = .ok (.ifCond .ne 5, 3) := by decide +kernel
theorem dX12_seesSame_20 : decode cX12_seesSame 20 = .ok (.iconst 0, 1) := by decide +kernel
theorem dX12_seesSame_21 : decode cX12_seesSame 21 = .ok (.ireturn, 1) := by decide +kernel
theorem dX12_seesSame_22 : decode cX12_seesSame 22 = .ok (.iconst 0, 1) := by decide +kernel
theorem dX12_seesSame_23 : decode cX12_seesSame 23 = .ok (.istore_n 2, 1) := by decide +kernel
theorem dX12_seesSame_24 : decode cX12_seesSame 24 = .ok (.iload_n 2, 1) := by decide +kernel
theorem dX12_seesSame_25 : decode cX12_seesSame 25 = .ok (.aload_n 0, 1) := by decide +kernel
theorem dX12_seesSame_26 : decode cX12_seesSame 26 = .ok (.iload_n 1, 1) := by decide +kernel
theorem dX12_seesSame_27 : decode cX12_seesSame 27 = .ok (.invokevirtual 311, 3) := by decide +kernel
theorem dX12_seesSame_30 : decode cX12_seesSame 30 = .ok (.if_icmp .ge 42, 3) := by decide +kernel
theorem dX12_seesSame_33 : decode cX12_seesSame 33 = .ok (.aload_n 0, 1) := by decide +kernel
theorem dX12_seesSame_34 : decode cX12_seesSame 34 = .ok (.aload_n 0, 1) := by decide +kernel
theorem dX12_seesSame_35 : decode cX12_seesSame 35 = .ok (.getfield 35, 3) := by decide +kernel
theorem dX12_seesSame_38 : decode cX12_seesSame 38 = .ok (.bipush 78, 2) := by decide +kernel
theorem dX12_seesSame_40 : decode cX12_seesSame 40 = .ok (.iload_n 1, 1) := by decide +kernel
theorem dX12_seesSame_41 : decode cX12_seesSame 41 = .ok (.iadd, 1) := by decide +kernel
theorem dX12_seesSame_42 : decode cX12_seesSame 42 = .ok (.iaload, 1) := by decide +kernel
theorem dX12_seesSame_43 : decode cX12_seesSame 43 = .ok (.iload_n 2, 1) := by decide +kernel
theorem dX12_seesSame_44 : decode cX12_seesSame 44 = .ok (.invokevirtual 345, 3) := by decide +kernel
theorem dX12_seesSame_47 : decode cX12_seesSame 47 = .ok (.aload_n 0, 1) := by decide +kernel
theorem dX12_seesSame_48 : decode cX12_seesSame 48 = .ok (.getfield 35, 3) := by decide +kernel
theorem dX12_seesSame_51 : decode cX12_seesSame 51 = .ok (.bipush 90, 2) := by decide +kernel
theorem dX12_seesSame_53 : decode cX12_seesSame 53 = .ok (.bipush 9, 2) := by decide +kernel
theorem dX12_seesSame_55 : decode cX12_seesSame 55 = .ok (.iload_n 1, 1) := by decide +kernel
theorem dX12_seesSame_56 : decode cX12_seesSame 56 = .ok (.imul, 1) := by decide +kernel
theorem dX12_seesSame_57 : decode cX12_seesSame 57 = .ok (.iadd, 1) := by decide +kernel
theorem dX12_seesSame_58 : decode cX12_seesSame 58 = .ok (.iload_n 2, 1) := by decide +kernel
theorem dX12_seesSame_59 : decode cX12_seesSame 59 = .ok (.iadd, 1) := by decide +kernel
theorem dX12_seesSame_60 : decode cX12_seesSame 60 = .ok (.iaload, 1) := by decide +kernel
theorem dX12_seesSame_61 : decode cX12_seesSame 61 = .ok (.if_icmp .eq 5, 3) := by decide +kernel
theorem dX12_seesSame_64 : decode cX12_seesSame 64 = .ok (.iconst 0, 1) := by decide +kernel
theorem dX12_seesSame_65 : decode cX12_seesSame 65 = .ok (.ireturn, 1) := by decide +kernel
theorem dX12_seesSame_66 : decode cX12_seesSame 66 = .ok (.iinc 2 1, 3) := by decide +kernel
theorem dX12_seesSame_69 : decode cX12_seesSame 69 = .ok (.goto (-45), 3) := by decide +kernel
theorem dX12_seesSame_72 : decode cX12_seesSame 72 = .ok (.iconst 1, 1) := by decide +kernel
theorem dX12_seesSame_73 : decode cX12_seesSame 73 = .ok (.ireturn, 1) := by decide +kernel
theorem dX12_cellOf_0 : decode cX12_cellOf 0 = .ok (.aload_n 0, 1) := by decide +kernel
theorem dX12_cellOf_1 : decode cX12_cellOf 1 = .ok (.getfield 35, 3) := by decide +kernel
theorem dX12_cellOf_4 : decode cX12_cellOf 4 = .ok (.iload_n 1, 1) := by decide +kernel
theorem dX12_cellOf_5 : decode cX12_cellOf 5 = .ok (.iconst 1, 1) := by decide +kernel
theorem dX12_cellOf_6 : decode cX12_cellOf 6 = .ok (.iadd, 1) := by decide +kernel
theorem dX12_cellOf_7 : decode cX12_cellOf 7 = .ok (.iaload, 1) := by decide +kernel
theorem dX12_cellOf_8 : decode cX12_cellOf 8 = .ok (.aload_n 0, 1) := by decide +kernel
theorem dX12_cellOf_9 : decode cX12_cellOf 9 = .ok (.getfield 35, 3) := by decide +kernel
theorem dX12_cellOf_12 : decode cX12_cellOf 12 = .ok (.iconst 0, 1) := by decide +kernel
theorem dX12_cellOf_13 : decode cX12_cellOf 13 = .ok (.iaload, 1) := by decide +kernel
theorem dX12_cellOf_14 : decode cX12_cellOf 14 = .ok (.if_icmp .ge 47, 3) := by decide +kernel
theorem dX12_cellOf_17 : decode cX12_cellOf 17 = .ok (.aload_n 0, 1) := by decide +kernel
theorem dX12_cellOf_18 : decode cX12_cellOf 18 = .ok (.getfield 35, 3) := by decide +kernel
theorem dX12_cellOf_21 : decode cX12_cellOf 21 = .ok (.iload_n 1, 1) := by decide +kernel
theorem dX12_cellOf_22 : decode cX12_cellOf 22 = .ok (.iconst 2, 1) := by decide +kernel
theorem dX12_cellOf_23 : decode cX12_cellOf 23 = .ok (.iadd, 1) := by decide +kernel
theorem dX12_cellOf_24 : decode cX12_cellOf 24 = .ok (.iaload, 1) := by decide +kernel
theorem dX12_cellOf_25 : decode cX12_cellOf 25 = .ok (.aload_n 0, 1) := by decide +kernel
theorem dX12_cellOf_26 : decode cX12_cellOf 26 = .ok (.getfield 35, 3) := by decide +kernel
theorem dX12_cellOf_29 : decode cX12_cellOf 29 = .ok (.iconst 1, 1) := by decide +kernel
theorem dX12_cellOf_30 : decode cX12_cellOf 30 = .ok (.iaload, 1) := by decide +kernel
theorem dX12_cellOf_31 : decode cX12_cellOf 31 = .ok (.if_icmp .ge 30, 3) := by decide +kernel
theorem dX12_cellOf_34 : decode cX12_cellOf 34 = .ok (.aload_n 0, 1) := by decide +kernel
theorem dX12_cellOf_35 : decode cX12_cellOf 35 = .ok (.getfield 35, 3) := by decide +kernel
theorem dX12_cellOf_38 : decode cX12_cellOf 38 = .ok (.iload_n 1, 1) := by decide +kernel
theorem dX12_cellOf_39 : decode cX12_cellOf 39 = .ok (.iconst 2, 1) := by decide +kernel
theorem dX12_cellOf_40 : decode cX12_cellOf 40 = .ok (.iadd, 1) := by decide +kernel
theorem dX12_cellOf_41 : decode cX12_cellOf 41 = .ok (.iaload, 1) := by decide +kernel
theorem dX12_cellOf_42 : decode cX12_cellOf 42 = .ok (.aload_n 0, 1) := by decide +kernel
theorem dX12_cellOf_43 : decode cX12_cellOf 43 = .ok (.getfield 35, 3) := by decide +kernel
theorem dX12_cellOf_46 : decode cX12_cellOf 46 = .ok (.iconst 0, 1) := by decide +kernel
theorem dX12_cellOf_47 : decode cX12_cellOf 47 = .ok (.iaload, 1) := by decide +kernel
theorem dX12_cellOf_48 : decode cX12_cellOf 48 = .ok (.imul, 1) := by decide +kernel
theorem dX12_cellOf_49 : decode cX12_cellOf 49 = .ok (.aload_n 0, 1) := by decide +kernel
theorem dX12_cellOf_50 : decode cX12_cellOf 50 = .ok (.getfield 35, 3) := by decide +kernel
theorem dX12_cellOf_53 : decode cX12_cellOf 53 = .ok (.iload_n 1, 1) := by decide +kernel
theorem dX12_cellOf_54 : decode cX12_cellOf 54 = .ok (.iconst 1, 1) := by decide +kernel
theorem dX12_cellOf_55 : decode cX12_cellOf 55 = .ok (.iadd, 1) := by decide +kernel
theorem dX12_cellOf_56 : decode cX12_cellOf 56 = .ok (.iaload, 1) := by decide +kernel
theorem dX12_cellOf_57 : decode cX12_cellOf 57 = .ok (.iadd, 1) := by decide +kernel
theorem dX12_cellOf_58 : decode cX12_cellOf 58 = .ok (.goto 4, 3) := by decide +kernel
theorem dX12_cellOf_61 : decode cX12_cellOf 61 = .ok (.iconst (-1), 1) := by decide +kernel
theorem dX12_cellOf_62 : decode cX12_cellOf 62 = .ok (.ireturn, 1) := by decide +kernel
theorem dX12_isSo_0 : decode cX12_isSo 0 = .ok (.aload_n 0, 1) := by decide +kernel
theorem dX12_isSo_1 : decode cX12_isSo 1 = .ok (.getfield 35, 3) := by decide +kernel
theorem dX12_isSo_4 : decode cX12_isSo 4 = .ok (.iload_n 1, 1) := by decide +kernel
theorem dX12_isSo_5 : decode cX12_isSo 5 = .ok (.iconst 4, 1) := by decide +kernel
theorem dX12_isSo_6 : decode cX12_isSo 6 = .ok (.iadd, 1) := by decide +kernel
theorem dX12_isSo_7 : decode cX12_isSo 7 = .ok (.iaload, 1) := by decide +kernel
theorem dX12_isSo_8 : decode cX12_isSo 8 = .ok (.istore_n 2, 1) := by decide +kernel
theorem dX12_isSo_9 : decode cX12_isSo 9 = .ok (.iload_n 2, 1) := by decide +kernel
theorem dX12_isSo_10 : decode cX12_isSo 10 = .ok (.ifCond .ne 39, 3) := by decide +kernel
theorem dX12_isSo_13 : decode cX12_isSo 13 = .ok (.aload_n 0, 1) := by decide +kernel
theorem dX12_isSo_14 : decode cX12_isSo 14 = .ok (.iload_n 1, 1) := by decide +kernel
theorem dX12_isSo_15 : decode cX12_isSo 15 = .ok (.invokevirtual 470, 3) := by decide +kernel
theorem dX12_isSo_18 : decode cX12_isSo 18 = .ok (.ifCond .lt 29, 3) := by decide +kernel
theorem dX12_isSo_21 : decode cX12_isSo 21 = .ok (.aload_n 0, 1) := by decide +kernel
theorem dX12_isSo_22 : decode cX12_isSo 22 = .ok (.aload_n 0, 1) := by decide +kernel
theorem dX12_isSo_23 : decode cX12_isSo 23 = .ok (.getfield 35, 3) := by decide +kernel
theorem dX12_isSo_26 : decode cX12_isSo 26 = .ok (.sipush 144, 3) := by decide +kernel
theorem dX12_isSo_29 : decode cX12_isSo 29 = .ok (.aload_n 0, 1) := by decide +kernel
theorem dX12_isSo_30 : decode cX12_isSo 30 = .ok (.iload_n 1, 1) := by decide +kernel
theorem dX12_isSo_31 : decode cX12_isSo 31 = .ok (.invokevirtual 470, 3) := by decide +kernel
theorem dX12_isSo_34 : decode cX12_isSo 34 = .ok (.iadd, 1) := by decide +kernel
theorem dX12_isSo_35 : decode cX12_isSo 35 = .ok (.iaload, 1) := by decide +kernel
theorem dX12_isSo_36 : decode cX12_isSo 36 = .ok (.iload_n 1, 1) := by decide +kernel
theorem dX12_isSo_37 : decode cX12_isSo 37 = .ok (.invokevirtual 473, 3) := by decide +kernel
theorem dX12_isSo_40 : decode cX12_isSo 40 = .ok (.ifCond .eq 7, 3) := by decide +kernel
theorem dX12_isSo_43 : decode cX12_isSo 43 = .ok (.iconst 1, 1) := by decide +kernel
theorem dX12_isSo_44 : decode cX12_isSo 44 = .ok (.goto 4, 3) := by decide +kernel
theorem dX12_isSo_47 : decode cX12_isSo 47 = .ok (.iconst 0, 1) := by decide +kernel
theorem dX12_isSo_48 : decode cX12_isSo 48 = .ok (.ireturn, 1) := by decide +kernel
theorem dX12_isSo_49 : decode cX12_isSo 49 = .ok (.iload_n 2, 1) := by decide +kernel
theorem dX12_isSo_50 : decode cX12_isSo 50 = .ok (.iconst 1, 1) := by decide +kernel
theorem dX12_isSo_51 : decode cX12_isSo 51 = .ok (.if_icmp .ne 68, 3) := by decide +kernel
theorem dX12_isSo_54 : decode cX12_isSo 54 = .ok (.aload_n 0, 1) := by decide +kernel
theorem dX12_isSo_55 : decode cX12_isSo 55 = .ok (.aload_n 0, 1) := by decide +kernel
theorem dX12_isSo_56 : decode cX12_isSo 56 = .ok (.getfield 35, 3) := by decide +kernel
theorem dX12_isSo_59 : decode cX12_isSo 59 = .ok (.iload_n 1, 1) := by decide +kernel
theorem dX12_isSo_60 : decode cX12_isSo 60 = .ok (.iconst 1, 1) := by decide +kernel
theorem dX12_isSo_61 : decode cX12_isSo 61 = .ok (.iadd, 1) := by decide +kernel
theorem dX12_isSo_62 : decode cX12_isSo 62 = .ok (.iaload, 1) := by decide +kernel
theorem dX12_isSo_63 : decode cX12_isSo 63 = .ok (.aload_n 0, 1) := by decide +kernel
theorem dX12_isSo_64 : decode cX12_isSo 64 = .ok (.getfield 35, 3) := by decide +kernel
theorem dX12_isSo_67 : decode cX12_isSo 67 = .ok (.iload_n 1, 1) := by decide +kernel
theorem dX12_isSo_68 : decode cX12_isSo 68 = .ok (.iconst 2, 1) := by decide +kernel
theorem dX12_isSo_69 : decode cX12_isSo 69 = .ok (.iadd, 1) := by decide +kernel
theorem dX12_isSo_70 : decode cX12_isSo 70 = .ok (.iaload, 1) := by decide +kernel
theorem dX12_isSo_71 : decode cX12_isSo 71 = .ok (.invokevirtual 322, 3) := by decide +kernel
theorem dX12_isSo_74 : decode cX12_isSo 74 = .ok (.ifCond .eq 43, 3) := by decide +kernel
theorem dX12_isSo_77 : decode cX12_isSo 77 = .ok (.aload_n 0, 1) := by decide +kernel
theorem dX12_isSo_78 : decode cX12_isSo 78 = .ok (.aload_n 0, 1) := by decide +kernel
theorem dX12_isSo_79 : decode cX12_isSo 79 = .ok (.aload_n 0, 1) := by decide +kernel
theorem dX12_isSo_80 : decode cX12_isSo 80 = .ok (.getfield 35, 3) := by decide +kernel
theorem dX12_isSo_83 : decode cX12_isSo 83 = .ok (.bipush 78, 2) := by decide +kernel
theorem dX12_isSo_85 : decode cX12_isSo 85 = .ok (.aload_n 0, 1) := by decide +kernel
theorem dX12_isSo_86 : decode cX12_isSo 86 = .ok (.getfield 35, 3) := by decide +kernel
theorem dX12_isSo_89 : decode cX12_isSo 89 = .ok (.iload_n 1, 1) := by decide +kernel
theorem dX12_isSo_90 : decode cX12_isSo 90 = .ok (.iconst 1, 1) := by decide +kernel
theorem dX12_isSo_91 : decode cX12_isSo 91 = .ok (.iadd, 1) := by decide +kernel
theorem dX12_isSo_92 : decode cX12_isSo 92 = .ok (.iaload, 1) := by decide +kernel
theorem dX12_isSo_93 : decode cX12_isSo 93 = .ok (.iadd, 1) := by decide +kernel
theorem dX12_isSo_94 : decode cX12_isSo 94 = .ok (.iaload, 1) := by decide +kernel
theorem dX12_isSo_95 : decode cX12_isSo 95 = .ok (.aload_n 0, 1) := by decide +kernel
theorem dX12_isSo_96 : decode cX12_isSo 96 = .ok (.getfield 35, 3) := by decide +kernel
theorem dX12_isSo_99 : decode cX12_isSo 99 = .ok (.iload_n 1, 1) := by decide +kernel
theorem dX12_isSo_100 : decode cX12_isSo 100 = .ok (.iconst 2, 1) := by decide +kernel
theorem dX12_isSo_101 : decode cX12_isSo 101 = .ok (.iadd, 1) := by decide +kernel
theorem dX12_isSo_102 : decode cX12_isSo 102 = .ok (.iaload, 1) := by decide +kernel
theorem dX12_isSo_103 : decode cX12_isSo 103 = .ok (.invokevirtual 345, 3) := by decide +kernel
theorem dX12_isSo_106 : decode cX12_isSo 106 = .ok (.iload_n 1, 1) := by decide +kernel
theorem dX12_isSo_107 : decode cX12_isSo 107 = .ok (.invokevirtual 473, 3) := by decide +kernel
theorem dX12_isSo_110 : decode cX12_isSo 110 = .ok (.ifCond .eq 7, 3) := by decide +kernel
theorem dX12_isSo_113 : decode cX12_isSo 113 = .ok (.iconst 1, 1) := by decide +kernel
theorem dX12_isSo_114 : decode cX12_isSo 114 = .ok (.goto 4, 3) := by decide +kernel
theorem dX12_isSo_117 : decode cX12_isSo 117 = .ok (.iconst 0, 1) := by decide +kernel
theorem dX12_isSo_118 : decode cX12_isSo 118 = .ok (.ireturn, 1) := by decide +kernel
theorem dX12_isSo_119 : decode cX12_isSo 119 = .ok (.iload_n 2, 1) := by decide +kernel
theorem dX12_isSo_120 : decode cX12_isSo 120 = .ok (.iconst 2, 1) := by decide +kernel
theorem dX12_isSo_121 : decode cX12_isSo 121 = .ok (.if_icmp .ne 16, 3) := by decide +kernel
theorem dX12_isSo_124 : decode cX12_isSo 124 = .ok (.aload_n 0, 1) := by decide +kernel
theorem dX12_isSo_125 : decode cX12_isSo 125 = .ok (.aload_n 0, 1) := by decide +kernel
theorem dX12_isSo_126 : decode cX12_isSo 126 = .ok (.getfield 35, 3) := by decide +kernel
theorem dX12_isSo_129 : decode cX12_isSo 129 = .ok (.iload_n 1, 1) := by decide +kernel
theorem dX12_isSo_130 : decode cX12_isSo 130 = .ok (.iconst 1, 1) := by decide +kernel
theorem dX12_isSo_131 : decode cX12_isSo 131 = .ok (.iadd, 1) := by decide +kernel
theorem dX12_isSo_132 : decode cX12_isSo 132 = .ok (.iaload, 1) := by decide +kernel
theorem dX12_isSo_133 : decode cX12_isSo 133 = .ok (.invokevirtual 476, 3) := by decide +kernel
theorem dX12_isSo_136 : decode cX12_isSo 136 = .ok (.ireturn, 1) := by decide +kernel
theorem dX12_isSo_137 : decode cX12_isSo 137 = .ok (.aload_n 0, 1) := by decide +kernel
theorem dX12_isSo_138 : decode cX12_isSo 138 = .ok (.aload_n 0, 1) := by decide +kernel
theorem dX12_isSo_139 : decode cX12_isSo 139 = .ok (.invokevirtual 348, 3) := by decide +kernel
theorem dX12_isSo_142 : decode cX12_isSo 142 = .ok (.iload_n 1, 1) := by decide +kernel
theorem dX12_isSo_143 : decode cX12_isSo 143 = .ok (.invokevirtual 473, 3) := by decide +kernel
theorem dX12_isSo_146 : decode cX12_isSo 146 = .ok (.ireturn, 1) := by decide +kernel
theorem dX12_doOne_0 : decode cX12_doOne 0 = .ok (.aload_n 0, 1) := by decide +kernel
theorem dX12_doOne_1 : decode cX12_doOne 1 = .ok (.getfield 479, 3) := by decide +kernel
theorem dX12_doOne_4 : decode cX12_doOne 4 = .ok (.sipush 400, 3) := by decide +kernel
theorem dX12_doOne_7 : decode cX12_doOne 7 = .ok (.if_icmp .ne 14, 3) := by decide +kernel
theorem dX12_doOne_10 : decode cX12_doOne 10 = .ok (.aload_n 0, 1) := by decide +kernel
theorem dX12_doOne_11 : decode cX12_doOne 11 = .ok (.iconst 1, 1) := by decide +kernel
theorem dX12_doOne_12 : decode cX12_doOne 12 = .ok (.putfield 482, 3) := by decide +kernel
theorem dX12_doOne_15 : decode cX12_doOne 15 = .ok (.aload_n 0, 1) := by decide +kernel
theorem dX12_doOne_16 : decode cX12_doOne 16 = .ok (.iconst 1, 1) := by decide +kernel
theorem dX12_doOne_17 : decode cX12_doOne 17 = .ok (.putfield 485, 3) := by decide +kernel
theorem dX12_doOne_20 : decode cX12_doOne 20 = .ok (.return_, 1) := by decide +kernel
theorem dX12_doOne_21 : decode cX12_doOne 21 = .ok (.aload_n 0, 1) := by decide +kernel
theorem dX12_doOne_22 : decode cX12_doOne 22 = .ok (.dup, 1) := by decide +kernel
theorem dX12_doOne_23 : decode cX12_doOne 23 = .ok (.getfield 479, 3) := by decide +kernel
theorem dX12_doOne_26 : decode cX12_doOne 26 = .ok (.iconst 1, 1) := by decide +kernel
theorem dX12_doOne_27 : decode cX12_doOne 27 = .ok (.iadd, 1) := by decide +kernel
theorem dX12_doOne_28 : decode cX12_doOne 28 = .ok (.putfield 479, 3) := by decide +kernel
theorem dX12_doOne_31 : decode cX12_doOne 31 = .ok (.sipush 171, 3) := by decide +kernel
theorem dX12_doOne_34 : decode cX12_doOne 34 = .ok (.bipush 8, 2) := by decide +kernel
theorem dX12_doOne_36 : decode cX12_doOne 36 = .ok (.iload_n 1, 1) := by decide +kernel
theorem dX12_doOne_37 : decode cX12_doOne 37 = .ok (.imul, 1) := by decide +kernel
theorem dX12_doOne_38 : decode cX12_doOne 38 = .ok (.iadd, 1) := by decide +kernel
theorem dX12_doOne_39 : decode cX12_doOne 39 = .ok (.istore_n 2, 1) := by decide +kernel
theorem dX12_doOne_40 : decode cX12_doOne 40 = .ok (.aload_n 0, 1) := by decide +kernel
theorem dX12_doOne_41 : decode cX12_doOne 41 = .ok (.getfield 35, 3) := by decide +kernel
theorem dX12_doOne_44 : decode cX12_doOne 44 = .ok (.iload_n 2, 1) := by decide +kernel
theorem dX12_doOne_45 : decode cX12_doOne 45 = .ok (.iaload, 1) := by decide +kernel
theorem dX12_doOne_46 : decode cX12_doOne 46 = .ok (.istore_n 3, 1) := by decide +kernel
theorem dX12_doOne_47 : decode cX12_doOne 47 = .ok (.iload_n 3, 1) := by decide +kernel
theorem dX12_doOne_48 : decode cX12_doOne 48 = .ok (.ifCond .eq 8, 3) := by decide +kernel
theorem dX12_doOne_51 : decode cX12_doOne 51 = .ok (.iload_n 3, 1) := by decide +kernel
theorem dX12_doOne_52 : decode cX12_doOne 52 = .ok (.iconst 1, 1) := by decide +kernel
theorem dX12_doOne_53 : decode cX12_doOne 53 = .ok (.if_icmp .ne 47, 3) := by decide +kernel
theorem dX12_doOne_56 : decode cX12_doOne 56 = .ok (.aload_n 0, 1) := by decide +kernel
theorem dX12_doOne_57 : decode cX12_doOne 57 = .ok (.iload_n 2, 1) := by decide +kernel
theorem dX12_doOne_58 : decode cX12_doOne 58 = .ok (.invokevirtual 470, 3) := by decide +kernel
theorem dX12_doOne_61 : decode cX12_doOne 61 = .ok (.ifCond .lt 179, 3) := by decide +kernel
theorem dX12_doOne_64 : decode cX12_doOne 64 = .ok (.aload_n 0, 1) := by decide +kernel
theorem dX12_doOne_65 : decode cX12_doOne 65 = .ok (.aload_n 0, 1) := by decide +kernel
theorem dX12_doOne_66 : decode cX12_doOne 66 = .ok (.iload_n 2, 1) := by decide +kernel
theorem dX12_doOne_67 : decode cX12_doOne 67 = .ok (.invokevirtual 470, 3) := by decide +kernel
theorem dX12_doOne_70 : decode cX12_doOne 70 = .ok (.iload_n 3, 1) := by decide +kernel
theorem dX12_doOne_71 : decode cX12_doOne 71 = .ok (.ifCond .ne 14, 3) := by decide +kernel
theorem dX12_doOne_74 : decode cX12_doOne 74 = .ok (.aload_n 0, 1) := by decide +kernel
theorem dX12_doOne_75 : decode cX12_doOne 75 = .ok (.getfield 35, 3) := by decide +kernel
theorem dX12_doOne_78 : decode cX12_doOne 78 = .ok (.iload_n 2, 1) := by decide +kernel
theorem dX12_doOne_79 : decode cX12_doOne 79 = .ok (.iconst 3, 1) := by decide +kernel
theorem dX12_doOne_80 : decode cX12_doOne 80 = .ok (.iadd, 1) := by decide +kernel
theorem dX12_doOne_81 : decode cX12_doOne 81 = .ok (.iaload, 1) := by decide +kernel
theorem dX12_doOne_82 : decode cX12_doOne 82 = .ok (.goto 12, 3) := by decide +kernel
theorem dX12_doOne_85 : decode cX12_doOne 85 = .ok (.aload_n 0, 1) := by decide +kernel
theorem dX12_doOne_86 : decode cX12_doOne 86 = .ok (.getfield 35, 3) := by decide +kernel
theorem dX12_doOne_89 : decode cX12_doOne 89 = .ok (.iload_n 2, 1) := by decide +kernel
theorem dX12_doOne_90 : decode cX12_doOne 90 = .ok (.iconst 3, 1) := by decide +kernel
theorem dX12_doOne_91 : decode cX12_doOne 91 = .ok (.iadd, 1) := by decide +kernel
theorem dX12_doOne_92 : decode cX12_doOne 92 = .ok (.iaload, 1) := by decide +kernel
theorem dX12_doOne_93 : decode cX12_doOne 93 = .ok (.ineg, 1) := by decide +kernel
theorem dX12_doOne_94 : decode cX12_doOne 94 = .ok (.invokevirtual 489, 3) := by decide +kernel
theorem dX12_doOne_97 : decode cX12_doOne 97 = .ok (.goto 143, 3) := by decide +kernel
theorem dX12_doOne_100 : decode cX12_doOne 100 = .ok (.iload_n 3, 1) := by decide +kernel
theorem dX12_doOne_101 : decode cX12_doOne 101 = .ok (.iconst 2, 1) := by decide +kernel
theorem dX12_doOne_102 : decode cX12_doOne 102 = .ok (.if_icmp .ne 48, 3) := by decide +kernel
theorem dX12_doOne_105 : decode cX12_doOne 105 = .ok (.iconst 0, 1) := by decide +kernel
theorem dX12_doOne_106 : decode cX12_doOne 106 = .ok (.istore 4, 2) := by decide +kernel
theorem dX12_doOne_108 : decode cX12_doOne 108 = .ok (.iload 4, 2) := by decide +kernel
theorem dX12_doOne_110 : decode cX12_doOne 110 = .ok (.aload_n 0, 1) := by decide +kernel
theorem dX12_doOne_111 : decode cX12_doOne 111 = .ok (.getfield 35, 3) := by decide +kernel
theorem dX12_doOne_114 : decode cX12_doOne 114 = .ok (.iload_n 2, 1) := by decide +kernel
theorem dX12_doOne_115 : decode cX12_doOne 115 = .ok (.iconst 3, 1) := by decide +kernel
theorem dX12_doOne_116 : decode cX12_doOne 116 = .ok (.iadd, 1) := by decide +kernel
theorem dX12_doOne_117 : decode cX12_doOne 117 = .ok (.iaload, 1) := by decide +kernel
theorem dX12_doOne_118 : decode cX12_doOne 118 = .ok (.if_icmp .ge 29, 3) := by decide +kernel
theorem dX12_doOne_121 : decode cX12_doOne 121 = .ok (.aload_n 0, 1) := by decide +kernel
theorem dX12_doOne_122 : decode cX12_doOne 122 = .ok (.invokevirtual 305, 3) := by decide +kernel
theorem dX12_doOne_125 : decode cX12_doOne 125 = .ok (.ifCond .le 22, 3) := by decide +kernel
theorem dX12_doOne_128 : decode cX12_doOne 128 = .ok (.aload_n 0, 1) := by decide +kernel
theorem dX12_doOne_129 : decode cX12_doOne 129 = .ok (.aload_n 0, 1) := by decide +kernel
theorem dX12_doOne_130 : decode cX12_doOne 130 = .ok (.aload_n 0, 1) := by decide +kernel
theorem dX12_doOne_131 : decode cX12_doOne 131 = .ok (.invokevirtual 305, 3) := by decide +kernel
theorem dX12_doOne_134 : decode cX12_doOne 134 = .ok (.invokevirtual 492, 3) := by decide +kernel
theorem dX12_doOne_137 : decode cX12_doOne 137 = .ok (.iconst (-1), 1) := by decide +kernel
theorem dX12_doOne_138 : decode cX12_doOne 138 = .ok (.invokevirtual 489, 3) := by decide +kernel
theorem dX12_doOne_141 : decode cX12_doOne 141 = .ok (.iinc 4 1, 3) := by decide +kernel
theorem dX12_doOne_144 : decode cX12_doOne 144 = .ok (.goto (-36), 3) := by decide +kernel
theorem dX12_doOne_147 : decode cX12_doOne 147 = .ok (.goto 93, 3) := by decide +kernel
theorem dX12_doOne_150 : decode cX12_doOne 150 = .ok (.iload_n 3, 1) := by decide +kernel
theorem dX12_doOne_151 : decode cX12_doOne 151 = .ok (.iconst 5, 1) := by decide +kernel
theorem dX12_doOne_152 : decode cX12_doOne 152 = .ok (.if_icmp .ne 11, 3) := by decide +kernel
theorem dX12_doOne_155 : decode cX12_doOne 155 = .ok (.aload_n 0, 1) := by decide +kernel
theorem dX12_doOne_156 : decode cX12_doOne 156 = .ok (.iconst 1, 1) := by decide +kernel
theorem dX12_doOne_157 : decode cX12_doOne 157 = .ok (.putfield 485, 3) := by decide +kernel
theorem dX12_doOne_160 : decode cX12_doOne 160 = .ok (.goto 80, 3) := by decide +kernel
theorem dX12_doOne_163 : decode cX12_doOne 163 = .ok (.iload_n 3, 1) := by decide +kernel
theorem dX12_doOne_164 : decode cX12_doOne 164 = .ok (.iconst 3, 1) := by decide +kernel
theorem dX12_doOne_165 : decode cX12_doOne 165 = .ok (.if_icmp .ne 30, 3) := by decide +kernel
theorem dX12_doOne_168 : decode cX12_doOne 168 = .ok (.aload_n 0, 1) := by decide +kernel
theorem dX12_doOne_169 : decode cX12_doOne 169 = .ok (.iload_n 2, 1) := by decide +kernel
theorem dX12_doOne_170 : decode cX12_doOne 170 = .ok (.invokevirtual 495, 3) := by decide +kernel
theorem dX12_doOne_173 : decode cX12_doOne 173 = .ok (.ifCond .eq 67, 3) := by decide +kernel
theorem dX12_doOne_176 : decode cX12_doOne 176 = .ok (.aload_n 0, 1) := by decide +kernel
theorem dX12_doOne_177 : decode cX12_doOne 177 = .ok (.iload_n 1, 1) := by decide +kernel
theorem dX12_doOne_178 : decode cX12_doOne 178 = .ok (.iconst 1, 1) := by decide +kernel
theorem dX12_doOne_179 : decode cX12_doOne 179 = .ok (.iadd, 1) := by decide +kernel
theorem dX12_doOne_180 : decode cX12_doOne 180 = .ok (.aload_n 0, 1) := by decide +kernel
theorem dX12_doOne_181 : decode cX12_doOne 181 = .ok (.getfield 35, 3) := by decide +kernel
theorem dX12_doOne_184 : decode cX12_doOne 184 = .ok (.iload_n 2, 1) := by decide +kernel
theorem dX12_doOne_185 : decode cX12_doOne 185 = .ok (.bipush 7, 2) := by decide +kernel
theorem dX12_doOne_187 : decode cX12_doOne 187 = .ok (.iadd, 1) := by decide +kernel
theorem dX12_doOne_188 : decode cX12_doOne 188 = .ok (.iaload, 1) := by decide +kernel
theorem dX12_doOne_189 : decode cX12_doOne 189 = .ok (.invokevirtual 498, 3) := by decide +kernel
theorem dX12_doOne_192 : decode cX12_doOne 192 = .ok (.goto 48, 3) := by decide +kernel
theorem dX12_doOne_195 : decode cX12_doOne 195 = .ok (.iconst 0, 1) := by decide +kernel
theorem dX12_doOne_196 : decode cX12_doOne 196 = .ok (.istore 4, 2) := by decide +kernel
theorem dX12_doOne_198 : decode cX12_doOne 198 = .ok (.iload 4, 2) := by decide +kernel
theorem dX12_doOne_200 : decode cX12_doOne 200 = .ok (.aload_n 0, 1) := by decide +kernel
theorem dX12_doOne_201 : decode cX12_doOne 201 = .ok (.getfield 35, 3) := by decide +kernel
theorem dX12_doOne_204 : decode cX12_doOne 204 = .ok (.iload_n 2, 1) := by decide +kernel
theorem dX12_doOne_205 : decode cX12_doOne 205 = .ok (.iconst 3, 1) := by decide +kernel
theorem dX12_doOne_206 : decode cX12_doOne 206 = .ok (.iadd, 1) := by decide +kernel
theorem dX12_doOne_207 : decode cX12_doOne 207 = .ok (.iaload, 1) := by decide +kernel
theorem dX12_doOne_208 : decode cX12_doOne 208 = .ok (.if_icmp .ge 32, 3) := by decide +kernel
theorem dX12_doOne_211 : decode cX12_doOne 211 = .ok (.aload_n 0, 1) := by decide +kernel
theorem dX12_doOne_212 : decode cX12_doOne 212 = .ok (.getfield 485, 3) := by decide +kernel
theorem dX12_doOne_215 : decode cX12_doOne 215 = .ok (.ifCond .ne 25, 3) := by decide +kernel
theorem dX12_doOne_218 : decode cX12_doOne 218 = .ok (.aload_n 0, 1) := by decide +kernel
theorem dX12_doOne_219 : decode cX12_doOne 219 = .ok (.iload_n 1, 1) := by decide +kernel
theorem dX12_doOne_220 : decode cX12_doOne 220 = .ok (.iconst 1, 1) := by decide +kernel
theorem dX12_doOne_221 : decode cX12_doOne 221 = .ok (.iadd, 1) := by decide +kernel
theorem dX12_doOne_222 : decode cX12_doOne 222 = .ok (.aload_n 0, 1) := by decide +kernel
theorem dX12_doOne_223 : decode cX12_doOne 223 = .ok (.getfield 35, 3) := by decide +kernel
theorem dX12_doOne_226 : decode cX12_doOne 226 = .ok (.iload_n 2, 1) := by decide +kernel
theorem dX12_doOne_227 : decode cX12_doOne 227 = .ok (.bipush 7, 2) := by decide +kernel
theorem dX12_doOne_229 : decode cX12_doOne 229 = .ok (.iadd, 1) := by decide +kernel
theorem dX12_doOne_230 : decode cX12_doOne 230 = .ok (.iaload, 1) := by decide +kernel
theorem dX12_doOne_231 : decode cX12_doOne 231 = .ok (.invokevirtual 498, 3) := by decide +kernel
theorem dX12_doOne_234 : decode cX12_doOne 234 = .ok (.iinc 4 1, 3) := by decide +kernel
theorem dX12_doOne_237 : decode cX12_doOne 237 = .ok (.goto (-39), 3) := by decide +kernel
theorem dX12_doOne_240 : decode cX12_doOne 240 = .ok (.return_, 1) := by decide +kernel
theorem dX12_doAll_0 : decode cX12_doAll 0 = .ok (.iload_n 1, 1) := by decide +kernel
theorem dX12_doAll_1 : decode cX12_doAll 1 = .ok (.istore_n 3, 1) := by decide +kernel
theorem dX12_doAll_2 : decode cX12_doAll 2 = .ok (.iload_n 3, 1) := by decide +kernel
theorem dX12_doAll_3 : decode cX12_doAll 3 = .ok (.iload_n 2, 1) := by decide +kernel
theorem dX12_doAll_4 : decode cX12_doAll 4 = .ok (.if_icmp .ge 35, 3) := by decide +kernel
theorem dX12_doAll_7 : decode cX12_doAll 7 = .ok (.aload_n 0, 1) := by decide +kernel
theorem dX12_doAll_8 : decode cX12_doAll 8 = .ok (.getfield 485, 3) := by decide +kernel
theorem dX12_doAll_11 : decode cX12_doAll 11 = .ok (.ifCond .ne 28, 3) := by decide +kernel
theorem dX12_doAll_14 : decode cX12_doAll 14 = .ok (.aload_n 0, 1) := by decide +kernel
theorem dX12_doAll_15 : decode cX12_doAll 15 = .ok (.iload_n 3, 1) := by decide +kernel
theorem dX12_doAll_16 : decode cX12_doAll 16 = .ok (.invokevirtual 501, 3) := by decide +kernel
theorem dX12_doAll_19 : decode cX12_doAll 19 = .ok (.aload_n 0, 1) := by decide +kernel
theorem dX12_doAll_20 : decode cX12_doAll 20 = .ok (.getfield 35, 3) := by decide +kernel
theorem dX12_doAll_23 : decode cX12_doAll 23 = .ok (.sipush 171, 3) := by decide +kernel
theorem dX12_doAll_26 : decode cX12_doAll 26 = .ok (.bipush 8, 2) := by decide +kernel
theorem dX12_doAll_28 : decode cX12_doAll 28 = .ok (.iload_n 3, 1) := by decide +kernel
theorem dX12_doAll_29 : decode cX12_doAll 29 = .ok (.imul, 1) := by decide +kernel
theorem dX12_doAll_30 : decode cX12_doAll 30 = .ok (.iadd, 1) := by decide +kernel
theorem dX12_doAll_31 : decode cX12_doAll 31 = .ok (.bipush 7, 2) := by decide +kernel
theorem dX12_doAll_33 : decode cX12_doAll 33 = .ok (.iadd, 1) := by decide +kernel
theorem dX12_doAll_34 : decode cX12_doAll 34 = .ok (.iaload, 1) := by decide +kernel
theorem dX12_doAll_35 : decode cX12_doAll 35 = .ok (.istore_n 3, 1) := by decide +kernel
theorem dX12_doAll_36 : decode cX12_doAll 36 = .ok (.goto (-34), 3) := by decide +kernel
theorem dX12_doAll_39 : decode cX12_doAll 39 = .ok (.return_, 1) := by decide +kernel
theorem dX12_run_0 : decode cX12_run 0 = .ok (.aload_n 0, 1) := by decide +kernel
theorem dX12_run_1 : decode cX12_run 1 = .ok (.iload_n 1, 1) := by decide +kernel
theorem dX12_run_2 : decode cX12_run 2 = .ok (.putfield 460, 3) := by decide +kernel
theorem dX12_run_5 : decode cX12_run 5 = .ok (.aload_n 0, 1) := by decide +kernel
theorem dX12_run_6 : decode cX12_run 6 = .ok (.iconst 0, 1) := by decide +kernel
theorem dX12_run_7 : decode cX12_run 7 = .ok (.putfield 479, 3) := by decide +kernel
theorem dX12_run_10 : decode cX12_run 10 = .ok (.aload_n 0, 1) := by decide +kernel
theorem dX12_run_11 : decode cX12_run 11 = .ok (.iconst 0, 1) := by decide +kernel
theorem dX12_run_12 : decode cX12_run 12 = .ok (.putfield 464, 3) := by decide +kernel
theorem dX12_run_15 : decode cX12_run 15 = .ok (.aload_n 0, 1) := by decide +kernel
theorem dX12_run_16 : decode cX12_run 16 = .ok (.iconst 0, 1) := by decide +kernel
theorem dX12_run_17 : decode cX12_run 17 = .ok (.putfield 467, 3) := by decide +kernel
theorem dX12_run_20 : decode cX12_run 20 = .ok (.aload_n 0, 1) := by decide +kernel
theorem dX12_run_21 : decode cX12_run 21 = .ok (.iconst 0, 1) := by decide +kernel
theorem dX12_run_22 : decode cX12_run 22 = .ok (.putfield 482, 3) := by decide +kernel
theorem dX12_run_25 : decode cX12_run 25 = .ok (.aload_n 0, 1) := by decide +kernel
theorem dX12_run_26 : decode cX12_run 26 = .ok (.iconst 0, 1) := by decide +kernel
theorem dX12_run_27 : decode cX12_run 27 = .ok (.putfield 485, 3) := by decide +kernel
theorem dX12_run_30 : decode cX12_run 30 = .ok (.aload_n 0, 1) := by decide +kernel
theorem dX12_run_31 : decode cX12_run 31 = .ok (.iconst 0, 1) := by decide +kernel
theorem dX12_run_32 : decode cX12_run 32 = .ok (.aload_n 0, 1) := by decide +kernel
theorem dX12_run_33 : decode cX12_run 33 = .ok (.getfield 35, 3) := by decide +kernel
theorem dX12_run_36 : decode cX12_run 36 = .ok (.sipush 170, 3) := by decide +kernel
theorem dX12_run_39 : decode cX12_run 39 = .ok (.iaload, 1) := by decide +kernel
theorem dX12_run_40 : decode cX12_run 40 = .ok (.invokevirtual 498, 3) := by decide +kernel
theorem dX12_run_43 : decode cX12_run 43 = .ok (.return_, 1) := by decide +kernel
theorem dX12_built_0 : decode cX12_built 0 = .ok (.aload_n 0, 1) := by decide +kernel
theorem dX12_built_1 : decode cX12_built 1 = .ok (.iconst 0, 1) := by decide +kernel
theorem dX12_built_2 : decode cX12_built 2 = .ok (.putfield 81, 3) := by decide +kernel
theorem dX12_built_5 : decode cX12_built 5 = .ok (.aload_n 0, 1) := by decide +kernel
theorem dX12_built_6 : decode cX12_built 6 = .ok (.iconst 0, 1) := by decide +kernel
theorem dX12_built_7 : decode cX12_built 7 = .ok (.putfield 84, 3) := by decide +kernel
theorem dX12_built_10 : decode cX12_built 10 = .ok (.iload_n 1, 1) := by decide +kernel
theorem dX12_built_11 : decode cX12_built 11 = .ok (.i2l, 1) := by decide +kernel
theorem dX12_built_12 : decode cX12_built 12 = .ok (.lconst 0, 1) := by decide +kernel
theorem dX12_built_13 : decode cX12_built 13 = .ok (.ldc2_w 504, 3) := by decide +kernel
theorem dX12_built_16 : decode cX12_built 16 = .ok (.invokestatic 116, 3) := by decide +kernel
theorem dX12_built_19 : decode cX12_built 19 = .ok (.ifCond .ne 9, 3) := by decide +kernel
theorem dX12_built_22 : decode cX12_built 22 = .ok (.aload_n 0, 1) := by decide +kernel
theorem dX12_built_23 : decode cX12_built 23 = .ok (.iconst 5, 1) := by decide +kernel
theorem dX12_built_24 : decode cX12_built 24 = .ok (.invokevirtual 316, 3) := by decide +kernel
theorem dX12_built_27 : decode cX12_built 27 = .ok (.ireturn, 1) := by decide +kernel
theorem dX12_built_28 : decode cX12_built 28 = .ok (.aload_n 0, 1) := by decide +kernel
theorem dX12_built_29 : decode cX12_built 29 = .ok (.getfield 35, 3) := by decide +kernel
theorem dX12_built_32 : decode cX12_built 32 = .ok (.sipush 169, 3) := by decide +kernel
theorem dX12_built_35 : decode cX12_built 35 = .ok (.iaload, 1) := by decide +kernel
theorem dX12_built_36 : decode cX12_built 36 = .ok (.ifCond .ne 10, 3) := by decide +kernel
theorem dX12_built_39 : decode cX12_built 39 = .ok (.aload_n 0, 1) := by decide +kernel
theorem dX12_built_40 : decode cX12_built 40 = .ok (.bipush 8, 2) := by decide +kernel
theorem dX12_built_42 : decode cX12_built 42 = .ok (.invokevirtual 316, 3) := by decide +kernel
theorem dX12_built_45 : decode cX12_built 45 = .ok (.ireturn, 1) := by decide +kernel
theorem dX12_built_46 : decode cX12_built 46 = .ok (.aload_n 0, 1) := by decide +kernel
theorem dX12_built_47 : decode cX12_built 47 = .ok (.iload_n 1, 1) := by decide +kernel
theorem dX12_built_48 : decode cX12_built 48 = .ok (.invokevirtual 506, 3) := by decide +kernel
theorem dX12_built_51 : decode cX12_built 51 = .ok (.aload_n 0, 1) := by decide +kernel
theorem dX12_built_52 : decode cX12_built 52 = .ok (.getfield 69, 3) := by decide +kernel
theorem dX12_built_55 : decode cX12_built 55 = .ok (.iconst 0, 1) := by decide +kernel
theorem dX12_built_56 : decode cX12_built 56 = .ok (.aload_n 0, 1) := by decide +kernel
theorem dX12_built_57 : decode cX12_built 57 = .ok (.getfield 464, 3) := by decide +kernel
theorem dX12_built_60 : decode cX12_built 60 = .ok (.iastore, 1) := by decide +kernel
theorem dX12_built_61 : decode cX12_built 61 = .ok (.aload_n 0, 1) := by decide +kernel
theorem dX12_built_62 : decode cX12_built 62 = .ok (.getfield 69, 3) := by decide +kernel
theorem dX12_built_65 : decode cX12_built 65 = .ok (.iconst 1, 1) := by decide +kernel
theorem dX12_built_66 : decode cX12_built 66 = .ok (.aload_n 0, 1) := by decide +kernel
theorem dX12_built_67 : decode cX12_built 67 = .ok (.getfield 467, 3) := by decide +kernel
theorem dX12_built_70 : decode cX12_built 70 = .ok (.iastore, 1) := by decide +kernel
theorem dX12_built_71 : decode cX12_built 71 = .ok (.aload_n 0, 1) := by decide +kernel
theorem dX12_built_72 : decode cX12_built 72 = .ok (.getfield 69, 3) := by decide +kernel
theorem dX12_built_75 : decode cX12_built 75 = .ok (.iconst 2, 1) := by decide +kernel
theorem dX12_built_76 : decode cX12_built 76 = .ok (.aload_n 0, 1) := by decide +kernel
theorem dX12_built_77 : decode cX12_built 77 = .ok (.getfield 482, 3) := by decide +kernel
theorem dX12_built_80 : decode cX12_built 80 = .ok (.iastore, 1) := by decide +kernel
theorem dX12_built_81 : decode cX12_built 81 = .ok (.aload_n 0, 1) := by decide +kernel
theorem dX12_built_82 : decode cX12_built 82 = .ok (.iconst 1, 1) := by decide +kernel
theorem dX12_built_83 : decode cX12_built 83 = .ok (.putfield 509, 3) := by decide +kernel
theorem dX12_built_86 : decode cX12_built 86 = .ok (.aload_n 0, 1) := by decide +kernel
theorem dX12_built_87 : decode cX12_built 87 = .ok (.getfield 479, 3) := by decide +kernel
theorem dX12_built_90 : decode cX12_built 90 = .ok (.ireturn, 1) := by decide +kernel
theorem dX12_building_0 : decode cX12_building 0 = .ok (.aload_n 0, 1) := by decide +kernel
theorem dX12_building_1 : decode cX12_building 1 = .ok (.iconst 0, 1) := by decide +kernel
theorem dX12_building_2 : decode cX12_building 2 = .ok (.putfield 81, 3) := by decide +kernel
theorem dX12_building_5 : decode cX12_building 5 = .ok (.aload_n 0, 1) := by decide +kernel
theorem dX12_building_6 : decode cX12_building 6 = .ok (.iconst 0, 1) := by decide +kernel
theorem dX12_building_7 : decode cX12_building 7 = .ok (.putfield 84, 3) := by decide +kernel
theorem dX12_building_10 : decode cX12_building 10 = .ok (.iload_n 1, 1) := by decide +kernel
theorem dX12_building_11 : decode cX12_building 11 = .ok (.i2l, 1) := by decide +kernel
theorem dX12_building_12 : decode cX12_building 12 = .ok (.lconst 0, 1) := by decide +kernel
theorem dX12_building_13 : decode cX12_building 13 = .ok (.ldc2_w 314, 3) := by decide +kernel
theorem dX12_building_16 : decode cX12_building 16 = .ok (.invokestatic 116, 3) := by decide +kernel
theorem dX12_building_19 : decode cX12_building 19 = .ok (.ifCond .ne 9, 3) := by decide +kernel
theorem dX12_building_22 : decode cX12_building 22 = .ok (.aload_n 0, 1) := by decide +kernel
theorem dX12_building_23 : decode cX12_building 23 = .ok (.iconst 5, 1) := by decide +kernel
theorem dX12_building_24 : decode cX12_building 24 = .ok (.invokevirtual 316, 3) := by decide +kernel
theorem dX12_building_27 : decode cX12_building 27 = .ok (.ireturn, 1) := by decide +kernel
theorem dX12_building_28 : decode cX12_building 28 = .ok (.aload_n 0, 1) := by decide +kernel
theorem dX12_building_29 : decode cX12_building 29 = .ok (.getfield 509, 3) := by decide +kernel
theorem dX12_building_32 : decode cX12_building 32 = .ok (.ifCond .eq 12, 3) := by decide +kernel
theorem dX12_building_35 : decode cX12_building 35 = .ok (.aload_n 0, 1) := by decide +kernel
theorem dX12_building_36 : decode cX12_building 36 = .ok (.getfield 69, 3) := by decide +kernel
theorem dX12_building_39 : decode cX12_building 39 = .ok (.iload_n 1, 1) := by decide +kernel
theorem dX12_building_40 : decode cX12_building 40 = .ok (.iaload, 1) := by decide +kernel
theorem dX12_building_41 : decode cX12_building 41 = .ok (.goto 9, 3) := by decide +kernel
theorem dX12_building_44 : decode cX12_building 44 = .ok (.aload_n 0, 1) := by decide +kernel
theorem dX12_building_45 : decode cX12_building 45 = .ok (.bipush 8, 2) := by decide +kernel
theorem dX12_building_47 : decode cX12_building 47 = .ok (.invokevirtual 316, 3) := by decide +kernel
theorem dX12_building_50 : decode cX12_building 50 = .ok (.ireturn, 1) := by decide +kernel
theorem dX12_tally_0 : decode cX12_tally 0 = .ok (.aload_n 0, 1) := by decide +kernel
theorem dX12_tally_1 : decode cX12_tally 1 = .ok (.iconst 0, 1) := by decide +kernel
theorem dX12_tally_2 : decode cX12_tally 2 = .ok (.putfield 81, 3) := by decide +kernel
theorem dX12_tally_5 : decode cX12_tally 5 = .ok (.aload_n 0, 1) := by decide +kernel
theorem dX12_tally_6 : decode cX12_tally 6 = .ok (.iconst 0, 1) := by decide +kernel
theorem dX12_tally_7 : decode cX12_tally 7 = .ok (.putfield 84, 3) := by decide +kernel
theorem dX12_tally_10 : decode cX12_tally 10 = .ok (.iload_n 2, 1) := by decide +kernel
theorem dX12_tally_11 : decode cX12_tally 11 = .ok (.i2l, 1) := by decide +kernel
theorem dX12_tally_12 : decode cX12_tally 12 = .ok (.lconst 1, 1) := by decide +kernel
theorem dX12_tally_13 : decode cX12_tally 13 = .ok (.ldc2_w 512, 3) := by decide +kernel
theorem dX12_tally_16 : decode cX12_tally 16 = .ok (.invokestatic 116, 3) := by decide +kernel
theorem dX12_tally_19 : decode cX12_tally 19 = .ok (.ifCond .eq 18, 3) := by decide +kernel
theorem dX12_tally_22 : decode cX12_tally 22 = .ok (.iload_n 1, 1) := by decide +kernel
theorem dX12_tally_23 : decode cX12_tally 23 = .ok (.i2l, 1) := by decide +kernel
theorem dX12_tally_24 : decode cX12_tally 24 = .ok (.lconst 0, 1) := by decide +kernel
theorem dX12_tally_25 : decode cX12_tally 25 = .ok (.sipush 10000, 3) := by decide +kernel
theorem dX12_tally_28 : decode cX12_tally 28 = .ok (.iload_n 2, 1) := by decide +kernel
theorem dX12_tally_29 : decode cX12_tally 29 = .ok (.isub, 1) := by decide +kernel
theorem dX12_tally_30 : decode cX12_tally 30 = .ok (.i2l, 1) := by decide +kernel
theorem dX12_tally_31 : decode cX12_tally 31 = .ok (.invokestatic 116, 3) := by decide +kernel
theorem dX12_tally_34 : decode cX12_tally 34 = .ok (.ifCond .ne 9, 3) := by decide +kernel
theorem dX12_tally_37 : decode cX12_tally 37 = .ok (.aload_n 0, 1) := by decide +kernel
theorem dX12_tally_38 : decode cX12_tally 38 = .ok (.iconst 5, 1) := by decide +kernel
theorem dX12_tally_39 : decode cX12_tally 39 = .ok (.invokevirtual 316, 3) := by decide +kernel
theorem dX12_tally_42 : decode cX12_tally 42 = .ok (.ireturn, 1) := by decide +kernel
theorem dX12_tally_43 : decode cX12_tally 43 = .ok (.aload_n 0, 1) := by decide +kernel
theorem dX12_tally_44 : decode cX12_tally 44 = .ok (.getfield 35, 3) := by decide +kernel
theorem dX12_tally_47 : decode cX12_tally 47 = .ok (.sipush 169, 3) := by decide +kernel
theorem dX12_tally_50 : decode cX12_tally 50 = .ok (.iaload, 1) := by decide +kernel
theorem dX12_tally_51 : decode cX12_tally 51 = .ok (.ifCond .ne 10, 3) := by decide +kernel
theorem dX12_tally_54 : decode cX12_tally 54 = .ok (.aload_n 0, 1) := by decide +kernel
theorem dX12_tally_55 : decode cX12_tally 55 = .ok (.bipush 8, 2) := by decide +kernel
theorem dX12_tally_57 : decode cX12_tally 57 = .ok (.invokevirtual 316, 3) := by decide +kernel
theorem dX12_tally_60 : decode cX12_tally 60 = .ok (.ireturn, 1) := by decide +kernel
theorem dX12_tally_61 : decode cX12_tally 61 = .ok (.iconst 0, 1) := by decide +kernel
theorem dX12_tally_62 : decode cX12_tally 62 = .ok (.istore_n 3, 1) := by decide +kernel
theorem dX12_tally_63 : decode cX12_tally 63 = .ok (.iload_n 3, 1) := by decide +kernel
theorem dX12_tally_64 : decode cX12_tally 64 = .ok (.aload_n 0, 1) := by decide +kernel
theorem dX12_tally_65 : decode cX12_tally 65 = .ok (.invokevirtual 305, 3) := by decide +kernel
theorem dX12_tally_68 : decode cX12_tally 68 = .ok (.if_icmp .ge 25, 3) := by decide +kernel
theorem dX12_tally_71 : decode cX12_tally 71 = .ok (.aload_n 0, 1) := by decide +kernel
theorem dX12_tally_72 : decode cX12_tally 72 = .ok (.getfield 72, 3) := by decide +kernel
theorem dX12_tally_75 : decode cX12_tally 75 = .ok (.iload_n 3, 1) := by decide +kernel
theorem dX12_tally_76 : decode cX12_tally 76 = .ok (.aload_n 0, 1) := by decide +kernel
theorem dX12_tally_77 : decode cX12_tally 77 = .ok (.getfield 35, 3) := by decide +kernel
theorem dX12_tally_80 : decode cX12_tally 80 = .ok (.sipush 144, 3) := by decide +kernel
theorem dX12_tally_83 : decode cX12_tally 83 = .ok (.iload_n 3, 1) := by decide +kernel
theorem dX12_tally_84 : decode cX12_tally 84 = .ok (.iadd, 1) := by decide +kernel
theorem dX12_tally_85 : decode cX12_tally 85 = .ok (.iaload, 1) := by decide +kernel
theorem dX12_tally_86 : decode cX12_tally 86 = .ok (.iastore, 1) := by decide +kernel
theorem dX12_tally_87 : decode cX12_tally 87 = .ok (.iinc 3 1, 3) := by decide +kernel
theorem dX12_tally_90 : decode cX12_tally 90 = .ok (.goto (-27), 3) := by decide +kernel
theorem dX12_tally_93 : decode cX12_tally 93 = .ok (.iconst 0, 1) := by decide +kernel
theorem dX12_tally_94 : decode cX12_tally 94 = .ok (.istore_n 3, 1) := by decide +kernel
theorem dX12_tally_95 : decode cX12_tally 95 = .ok (.iconst 0, 1) := by decide +kernel
theorem dX12_tally_96 : decode cX12_tally 96 = .ok (.istore 4, 2) := by decide +kernel
theorem dX12_tally_98 : decode cX12_tally 98 = .ok (.iload 4, 2) := by decide +kernel
theorem dX12_tally_100 : decode cX12_tally 100 = .ok (.iload_n 2, 1) := by decide +kernel
theorem dX12_tally_101 : decode cX12_tally 101 = .ok (.if_icmp .ge 123, 3) := by decide +kernel
theorem dX12_tally_104 : decode cX12_tally 104 = .ok (.aload_n 0, 1) := by decide +kernel
theorem dX12_tally_105 : decode cX12_tally 105 = .ok (.iload_n 1, 1) := by decide +kernel
theorem dX12_tally_106 : decode cX12_tally 106 = .ok (.iload 4, 2) := by decide +kernel
theorem dX12_tally_108 : decode cX12_tally 108 = .ok (.iadd, 1) := by decide +kernel
theorem dX12_tally_109 : decode cX12_tally 109 = .ok (.invokevirtual 506, 3) := by decide +kernel
theorem dX12_tally_112 : decode cX12_tally 112 = .ok (.iconst 1, 1) := by decide +kernel
theorem dX12_tally_113 : decode cX12_tally 113 = .ok (.istore 5, 2) := by decide +kernel
theorem dX12_tally_115 : decode cX12_tally 115 = .ok (.iconst 0, 1) := by decide +kernel
theorem dX12_tally_116 : decode cX12_tally 116 = .ok (.istore 6, 2) := by decide +kernel
theorem dX12_tally_118 : decode cX12_tally 118 = .ok (.iload 6, 2) := by decide +kernel
theorem dX12_tally_120 : decode cX12_tally 120 = .ok (.aload_n 0, 1) := by decide +kernel
theorem dX12_tally_121 : decode cX12_tally 121 = .ok (.getfield 35, 3) := by decide +kernel
theorem dX12_tally_124 : decode cX12_tally 124 = .ok (.iconst 2, 1) := by decide +kernel
theorem dX12_tally_125 : decode cX12_tally 125 = .ok (.iaload, 1) := by decide +kernel
theorem dX12_tally_126 : decode cX12_tally 126 = .ok (.if_icmp .ge 43, 3) := by decide +kernel
theorem dX12_tally_129 : decode cX12_tally 129 = .ok (.iload 5, 2) := by decide +kernel
theorem dX12_tally_131 : decode cX12_tally 131 = .ok (.ifCond .eq 29, 3) := by decide +kernel
theorem dX12_tally_134 : decode cX12_tally 134 = .ok (.aload_n 0, 1) := by decide +kernel
theorem dX12_tally_135 : decode cX12_tally 135 = .ok (.getfield 35, 3) := by decide +kernel
theorem dX12_tally_138 : decode cX12_tally 138 = .ok (.bipush 84, 2) := by decide +kernel
theorem dX12_tally_140 : decode cX12_tally 140 = .ok (.iload 6, 2) := by decide +kernel
theorem dX12_tally_142 : decode cX12_tally 142 = .ok (.iadd, 1) := by decide +kernel
theorem dX12_tally_143 : decode cX12_tally 143 = .ok (.iaload, 1) := by decide +kernel
theorem dX12_tally_144 : decode cX12_tally 144 = .ok (.ifCond .eq 12, 3) := by decide +kernel
theorem dX12_tally_147 : decode cX12_tally 147 = .ok (.aload_n 0, 1) := by decide +kernel
theorem dX12_tally_148 : decode cX12_tally 148 = .ok (.iload 6, 2) := by decide +kernel
theorem dX12_tally_150 : decode cX12_tally 150 = .ok (.invokevirtual 476, 3) := by decide +kernel
theorem dX12_tally_153 : decode cX12_tally 153 = .ok (.ifCond .eq 7, 3) := by decide +kernel
theorem dX12_tally_156 : decode cX12_tally 156 = .ok (.iconst 1, 1) := by decide +kernel
theorem dX12_tally_157 : decode cX12_tally 157 = .ok (.goto 4, 3) := by decide +kernel
theorem dX12_tally_160 : decode cX12_tally 160 = .ok (.iconst 0, 1) := by decide +kernel
theorem dX12_tally_161 : decode cX12_tally 161 = .ok (.istore 5, 2) := by decide +kernel
theorem dX12_tally_163 : decode cX12_tally 163 = .ok (.iinc 6 1, 3) := by decide +kernel
theorem dX12_tally_166 : decode cX12_tally 166 = .ok (.goto (-48), 3) := by decide +kernel
theorem dX12_tally_169 : decode cX12_tally 169 = .ok (.iload_n 3, 1) := by decide +kernel
theorem dX12_tally_170 : decode cX12_tally 170 = .ok (.iload 5, 2) := by decide +kernel
theorem dX12_tally_172 : decode cX12_tally 172 = .ok (.ifCond .eq 7, 3) := by decide +kernel
theorem dX12_tally_175 : decode cX12_tally 175 = .ok (.iconst 1, 1) := by decide +kernel
theorem dX12_tally_176 : decode cX12_tally 176 = .ok (.goto 4, 3) := by decide +kernel
theorem dX12_tally_179 : decode cX12_tally 179 = .ok (.iconst 0, 1) := by decide +kernel
theorem dX12_tally_180 : decode cX12_tally 180 = .ok (.iadd, 1) := by decide +kernel
theorem dX12_tally_181 : decode cX12_tally 181 = .ok (.istore_n 3, 1) := by decide +kernel
theorem dX12_tally_182 : decode cX12_tally 182 = .ok (.iconst 0, 1) := by decide +kernel
theorem dX12_tally_183 : decode cX12_tally 183 = .ok (.istore 6, 2) := by decide +kernel
theorem dX12_tally_185 : decode cX12_tally 185 = .ok (.iload 6, 2) := by decide +kernel
theorem dX12_tally_187 : decode cX12_tally 187 = .ok (.aload_n 0, 1) := by decide +kernel
theorem dX12_tally_188 : decode cX12_tally 188 = .ok (.invokevirtual 305, 3) := by decide +kernel
theorem dX12_tally_191 : decode cX12_tally 191 = .ok (.if_icmp .ge 27, 3) := by decide +kernel
theorem dX12_tally_194 : decode cX12_tally 194 = .ok (.aload_n 0, 1) := by decide +kernel
theorem dX12_tally_195 : decode cX12_tally 195 = .ok (.getfield 35, 3) := by decide +kernel
theorem dX12_tally_198 : decode cX12_tally 198 = .ok (.sipush 144, 3) := by decide +kernel
theorem dX12_tally_201 : decode cX12_tally 201 = .ok (.iload 6, 2) := by decide +kernel
theorem dX12_tally_203 : decode cX12_tally 203 = .ok (.iadd, 1) := by decide +kernel
theorem dX12_tally_204 : decode cX12_tally 204 = .ok (.aload_n 0, 1) := by decide +kernel
theorem dX12_tally_205 : decode cX12_tally 205 = .ok (.getfield 72, 3) := by decide +kernel
theorem dX12_tally_208 : decode cX12_tally 208 = .ok (.iload 6, 2) := by decide +kernel
theorem dX12_tally_210 : decode cX12_tally 210 = .ok (.iaload, 1) := by decide +kernel
theorem dX12_tally_211 : decode cX12_tally 211 = .ok (.iastore, 1) := by decide +kernel
theorem dX12_tally_212 : decode cX12_tally 212 = .ok (.iinc 6 1, 3) := by decide +kernel
theorem dX12_tally_215 : decode cX12_tally 215 = .ok (.goto (-30), 3) := by decide +kernel
theorem dX12_tally_218 : decode cX12_tally 218 = .ok (.iinc 4 1, 3) := by decide +kernel
theorem dX12_tally_221 : decode cX12_tally 221 = .ok (.goto (-123), 3) := by decide +kernel
theorem dX12_tally_224 : decode cX12_tally 224 = .ok (.iload_n 3, 1) := by decide +kernel
theorem dX12_tally_225 : decode cX12_tally 225 = .ok (.ireturn, 1) := by decide +kernel
theorem dX12_copy_0 : decode cX12_copy 0 = .ok (.iconst 0, 1) := by decide +kernel
theorem dX12_copy_1 : decode cX12_copy 1 = .ok (.istore_n 3, 1) := by decide +kernel
theorem dX12_copy_2 : decode cX12_copy 2 = .ok (.iload_n 3, 1) := by decide +kernel
theorem dX12_copy_3 : decode cX12_copy 3 = .ok (.sipush 412, 3) := by decide +kernel
theorem dX12_copy_6 : decode cX12_copy 6 = .ok (.if_icmp .ge 33, 3) := by decide +kernel
theorem dX12_copy_9 : decode cX12_copy 9 = .ok (.aload_n 0, 1) := by decide +kernel
theorem dX12_copy_10 : decode cX12_copy 10 = .ok (.getfield 35, 3) := by decide +kernel
theorem dX12_copy_13 : decode cX12_copy 13 = .ok (.sipush 412, 3) := by decide +kernel
theorem dX12_copy_16 : decode cX12_copy 16 = .ok (.iload_n 2, 1) := by decide +kernel
theorem dX12_copy_17 : decode cX12_copy 17 = .ok (.imul, 1) := by decide +kernel
theorem dX12_copy_18 : decode cX12_copy 18 = .ok (.iload_n 3, 1) := by decide +kernel
theorem dX12_copy_19 : decode cX12_copy 19 = .ok (.iadd, 1) := by decide +kernel
theorem dX12_copy_20 : decode cX12_copy 20 = .ok (.aload_n 0, 1) := by decide +kernel
theorem dX12_copy_21 : decode cX12_copy 21 = .ok (.getfield 35, 3) := by decide +kernel
theorem dX12_copy_24 : decode cX12_copy 24 = .ok (.sipush 412, 3) := by decide +kernel
theorem dX12_copy_27 : decode cX12_copy 27 = .ok (.iload_n 1, 1) := by decide +kernel
theorem dX12_copy_28 : decode cX12_copy 28 = .ok (.imul, 1) := by decide +kernel
theorem dX12_copy_29 : decode cX12_copy 29 = .ok (.iload_n 3, 1) := by decide +kernel
theorem dX12_copy_30 : decode cX12_copy 30 = .ok (.iadd, 1) := by decide +kernel
theorem dX12_copy_31 : decode cX12_copy 31 = .ok (.iaload, 1) := by decide +kernel
theorem dX12_copy_32 : decode cX12_copy 32 = .ok (.iastore, 1) := by decide +kernel
theorem dX12_copy_33 : decode cX12_copy 33 = .ok (.iinc 3 1, 3) := by decide +kernel
theorem dX12_copy_36 : decode cX12_copy 36 = .ok (.goto (-34), 3) := by decide +kernel
theorem dX12_copy_39 : decode cX12_copy 39 = .ok (.iconst 0, 1) := by decide +kernel
theorem dX12_copy_40 : decode cX12_copy 40 = .ok (.istore_n 3, 1) := by decide +kernel
theorem dX12_copy_41 : decode cX12_copy 41 = .ok (.iload_n 3, 1) := by decide +kernel
theorem dX12_copy_42 : decode cX12_copy 42 = .ok (.bipush 6, 2) := by decide +kernel
theorem dX12_copy_44 : decode cX12_copy 44 = .ok (.if_icmp .ge 31, 3) := by decide +kernel
theorem dX12_copy_47 : decode cX12_copy 47 = .ok (.aload_n 0, 1) := by decide +kernel
theorem dX12_copy_48 : decode cX12_copy 48 = .ok (.getfield 38, 3) := by decide +kernel
theorem dX12_copy_51 : decode cX12_copy 51 = .ok (.bipush 6, 2) := by decide +kernel
theorem dX12_copy_53 : decode cX12_copy 53 = .ok (.iload_n 2, 1) := by decide +kernel
theorem dX12_copy_54 : decode cX12_copy 54 = .ok (.imul, 1) := by decide +kernel
theorem dX12_copy_55 : decode cX12_copy 55 = .ok (.iload_n 3, 1) := by decide +kernel
theorem dX12_copy_56 : decode cX12_copy 56 = .ok (.iadd, 1) := by decide +kernel
theorem dX12_copy_57 : decode cX12_copy 57 = .ok (.aload_n 0, 1) := by decide +kernel
theorem dX12_copy_58 : decode cX12_copy 58 = .ok (.getfield 38, 3) := by decide +kernel
theorem dX12_copy_61 : decode cX12_copy 61 = .ok (.bipush 6, 2) := by decide +kernel
theorem dX12_copy_63 : decode cX12_copy 63 = .ok (.iload_n 1, 1) := by decide +kernel
theorem dX12_copy_64 : decode cX12_copy 64 = .ok (.imul, 1) := by decide +kernel
theorem dX12_copy_65 : decode cX12_copy 65 = .ok (.iload_n 3, 1) := by decide +kernel
theorem dX12_copy_66 : decode cX12_copy 66 = .ok (.iadd, 1) := by decide +kernel
theorem dX12_copy_67 : decode cX12_copy 67 = .ok (.laload, 1) := by decide +kernel
theorem dX12_copy_68 : decode cX12_copy 68 = .ok (.lastore, 1) := by decide +kernel
theorem dX12_copy_69 : decode cX12_copy 69 = .ok (.iinc 3 1, 3) := by decide +kernel
theorem dX12_copy_72 : decode cX12_copy 72 = .ok (.goto (-31), 3) := by decide +kernel
theorem dX12_copy_75 : decode cX12_copy 75 = .ok (.return_, 1) := by decide +kernel
theorem dX12_mark_0 : decode cX12_mark 0 = .ok (.aload_n 0, 1) := by decide +kernel
theorem dX12_mark_1 : decode cX12_mark 1 = .ok (.iconst 0, 1) := by decide +kernel
theorem dX12_mark_2 : decode cX12_mark 2 = .ok (.putfield 81, 3) := by decide +kernel
theorem dX12_mark_5 : decode cX12_mark 5 = .ok (.aload_n 0, 1) := by decide +kernel
theorem dX12_mark_6 : decode cX12_mark 6 = .ok (.iconst 0, 1) := by decide +kernel
theorem dX12_mark_7 : decode cX12_mark 7 = .ok (.putfield 84, 3) := by decide +kernel
theorem dX12_mark_10 : decode cX12_mark 10 = .ok (.aload_n 0, 1) := by decide +kernel
theorem dX12_mark_11 : decode cX12_mark 11 = .ok (.getfield 514, 3) := by decide +kernel
theorem dX12_mark_14 : decode cX12_mark 14 = .ok (.iconst 3, 1) := by decide +kernel
theorem dX12_mark_15 : decode cX12_mark 15 = .ok (.if_icmp .ne 10, 3) := by decide +kernel
theorem dX12_mark_18 : decode cX12_mark 18 = .ok (.aload_n 0, 1) := by decide +kernel
theorem dX12_mark_19 : decode cX12_mark 19 = .ok (.bipush 7, 2) := by decide +kernel
theorem dX12_mark_21 : decode cX12_mark 21 = .ok (.invokevirtual 316, 3) := by decide +kernel
theorem dX12_mark_24 : decode cX12_mark 24 = .ok (.ireturn, 1) := by decide +kernel
theorem dX12_mark_25 : decode cX12_mark 25 = .ok (.aload_n 0, 1) := by decide +kernel
theorem dX12_mark_26 : decode cX12_mark 26 = .ok (.dup, 1) := by decide +kernel
theorem dX12_mark_27 : decode cX12_mark 27 = .ok (.getfield 514, 3) := by decide +kernel
theorem dX12_mark_30 : decode cX12_mark 30 = .ok (.iconst 1, 1) := by decide +kernel
theorem dX12_mark_31 : decode cX12_mark 31 = .ok (.iadd, 1) := by decide +kernel
theorem dX12_mark_32 : decode cX12_mark 32 = .ok (.putfield 514, 3) := by decide +kernel
theorem dX12_mark_35 : decode cX12_mark 35 = .ok (.aload_n 0, 1) := by decide +kernel
theorem dX12_mark_36 : decode cX12_mark 36 = .ok (.iconst 0, 1) := by decide +kernel
theorem dX12_mark_37 : decode cX12_mark 37 = .ok (.aload_n 0, 1) := by decide +kernel
theorem dX12_mark_38 : decode cX12_mark 38 = .ok (.getfield 514, 3) := by decide +kernel
theorem dX12_mark_41 : decode cX12_mark 41 = .ok (.invokevirtual 517, 3) := by decide +kernel
theorem dX12_mark_44 : decode cX12_mark 44 = .ok (.aload_n 0, 1) := by decide +kernel
theorem dX12_mark_45 : decode cX12_mark 45 = .ok (.getfield 514, 3) := by decide +kernel
theorem dX12_mark_48 : decode cX12_mark 48 = .ok (.ireturn, 1) := by decide +kernel
theorem dX12_back_0 : decode cX12_back 0 = .ok (.aload_n 0, 1) := by decide +kernel
theorem dX12_back_1 : decode cX12_back 1 = .ok (.iconst 0, 1) := by decide +kernel
theorem dX12_back_2 : decode cX12_back 2 = .ok (.putfield 81, 3) := by decide +kernel
theorem dX12_back_5 : decode cX12_back 5 = .ok (.aload_n 0, 1) := by decide +kernel
theorem dX12_back_6 : decode cX12_back 6 = .ok (.iconst 0, 1) := by decide +kernel
theorem dX12_back_7 : decode cX12_back 7 = .ok (.putfield 84, 3) := by decide +kernel
theorem dX12_back_10 : decode cX12_back 10 = .ok (.aload_n 0, 1) := by decide +kernel
theorem dX12_back_11 : decode cX12_back 11 = .ok (.getfield 514, 3) := by decide +kernel
theorem dX12_back_14 : decode cX12_back 14 = .ok (.ifCond .ne 10, 3) := by decide +kernel
theorem dX12_back_17 : decode cX12_back 17 = .ok (.aload_n 0, 1) := by decide +kernel
theorem dX12_back_18 : decode cX12_back 18 = .ok (.bipush 8, 2) := by decide +kernel
theorem dX12_back_20 : decode cX12_back 20 = .ok (.invokevirtual 316, 3) := by decide +kernel
theorem dX12_back_23 : decode cX12_back 23 = .ok (.ireturn, 1) := by decide +kernel
theorem dX12_back_24 : decode cX12_back 24 = .ok (.aload_n 0, 1) := by decide +kernel
theorem dX12_back_25 : decode cX12_back 25 = .ok (.aload_n 0, 1) := by decide +kernel
theorem dX12_back_26 : decode cX12_back 26 = .ok (.getfield 514, 3) := by decide +kernel
theorem dX12_back_29 : decode cX12_back 29 = .ok (.iconst 0, 1) := by decide +kernel
theorem dX12_back_30 : decode cX12_back 30 = .ok (.invokevirtual 517, 3) := by decide +kernel
theorem dX12_back_33 : decode cX12_back 33 = .ok (.aload_n 0, 1) := by decide +kernel
theorem dX12_back_34 : decode cX12_back 34 = .ok (.dup, 1) := by decide +kernel
theorem dX12_back_35 : decode cX12_back 35 = .ok (.getfield 514, 3) := by decide +kernel
theorem dX12_back_38 : decode cX12_back 38 = .ok (.iconst 1, 1) := by decide +kernel
theorem dX12_back_39 : decode cX12_back 39 = .ok (.isub, 1) := by decide +kernel
theorem dX12_back_40 : decode cX12_back 40 = .ok (.putfield 514, 3) := by decide +kernel
theorem dX12_back_43 : decode cX12_back 43 = .ok (.aload_n 0, 1) := by decide +kernel
theorem dX12_back_44 : decode cX12_back 44 = .ok (.getfield 514, 3) := by decide +kernel
theorem dX12_back_47 : decode cX12_back 47 = .ok (.ireturn, 1) := by decide +kernel
theorem dJ6_numberOfLeadingZeros_0f7a4_0 : decode cJ6_numberOfLeadingZeros_0f7a4 0 = .ok (.iload_n 0, 1) := by decide +kernel
theorem dJ6_numberOfLeadingZeros_0f7a4_1 : decode cJ6_numberOfLeadingZeros_0f7a4 1 = .ok (.ifCond .gt 14, 3) := by decide +kernel
theorem dJ6_numberOfLeadingZeros_0f7a4_4 : decode cJ6_numberOfLeadingZeros_0f7a4 4 = .ok (.iload_n 0, 1) := by decide +kernel
theorem dJ6_numberOfLeadingZeros_0f7a4_5 : decode cJ6_numberOfLeadingZeros_0f7a4 5 = .ok (.ifCond .ne 8, 3) := by decide +kernel
theorem dJ6_numberOfLeadingZeros_0f7a4_8 : decode cJ6_numberOfLeadingZeros_0f7a4 8 = .ok (.bipush 32, 2) := by decide +kernel
theorem dJ6_numberOfLeadingZeros_0f7a4_10 : decode cJ6_numberOfLeadingZeros_0f7a4 10 = .ok (.goto 4, 3) := by decide +kernel
theorem dJ6_numberOfLeadingZeros_0f7a4_13 : decode cJ6_numberOfLeadingZeros_0f7a4 13 = .ok (.iconst 0, 1) := by decide +kernel
theorem dJ6_numberOfLeadingZeros_0f7a4_14 : decode cJ6_numberOfLeadingZeros_0f7a4 14 = .ok (.ireturn, 1) := by decide +kernel
theorem dJ6_numberOfLeadingZeros_0f7a4_15 : decode cJ6_numberOfLeadingZeros_0f7a4 15 = .ok (.bipush 31, 2) := by decide +kernel
theorem dJ6_numberOfLeadingZeros_0f7a4_17 : decode cJ6_numberOfLeadingZeros_0f7a4 17 = .ok (.istore_n 1, 1) := by decide +kernel
theorem dJ6_numberOfLeadingZeros_0f7a4_18 : decode cJ6_numberOfLeadingZeros_0f7a4 18 = .ok (.iload_n 0, 1) := by decide +kernel
theorem dJ6_numberOfLeadingZeros_0f7a4_19 : decode cJ6_numberOfLeadingZeros_0f7a4 19 = .ok (.ldc_w 264, 3) := by decide +kernel
theorem dJ6_numberOfLeadingZeros_0f7a4_22 : decode cJ6_numberOfLeadingZeros_0f7a4 22 = .ok (.if_icmp .lt 11, 3) := by decide +kernel
theorem dJ6_numberOfLeadingZeros_0f7a4_25 : decode cJ6_numberOfLeadingZeros_0f7a4 25 = .ok (.iinc 1 (-16), 3) := by decide +kernel
theorem dJ6_numberOfLeadingZeros_0f7a4_28 : decode cJ6_numberOfLeadingZeros_0f7a4 28 = .ok (.iload_n 0, 1) := by decide +kernel
theorem dJ6_numberOfLeadingZeros_0f7a4_29 : decode cJ6_numberOfLeadingZeros_0f7a4 29 = .ok (.bipush 16, 2) := by decide +kernel
theorem dJ6_numberOfLeadingZeros_0f7a4_31 : decode cJ6_numberOfLeadingZeros_0f7a4 31 = .ok (.iushr, 1) := by decide +kernel
theorem dJ6_numberOfLeadingZeros_0f7a4_32 : decode cJ6_numberOfLeadingZeros_0f7a4 32 = .ok (.istore_n 0, 1) := by decide +kernel
theorem dJ6_numberOfLeadingZeros_0f7a4_33 : decode cJ6_numberOfLeadingZeros_0f7a4 33 = .ok (.iload_n 0, 1) := by decide +kernel
theorem dJ6_numberOfLeadingZeros_0f7a4_34 : decode cJ6_numberOfLeadingZeros_0f7a4 34 = .ok (.sipush 256, 3) := by decide +kernel
theorem dJ6_numberOfLeadingZeros_0f7a4_37 : decode cJ6_numberOfLeadingZeros_0f7a4 37 = .ok (.if_icmp .lt 11, 3) := by decide +kernel
theorem dJ6_numberOfLeadingZeros_0f7a4_40 : decode cJ6_numberOfLeadingZeros_0f7a4 40 = .ok (.iinc 1 (-8), 3) := by decide +kernel
theorem dJ6_numberOfLeadingZeros_0f7a4_43 : decode cJ6_numberOfLeadingZeros_0f7a4 43 = .ok (.iload_n 0, 1) := by decide +kernel
theorem dJ6_numberOfLeadingZeros_0f7a4_44 : decode cJ6_numberOfLeadingZeros_0f7a4 44 = .ok (.bipush 8, 2) := by decide +kernel
theorem dJ6_numberOfLeadingZeros_0f7a4_46 : decode cJ6_numberOfLeadingZeros_0f7a4 46 = .ok (.iushr, 1) := by decide +kernel
theorem dJ6_numberOfLeadingZeros_0f7a4_47 : decode cJ6_numberOfLeadingZeros_0f7a4 47 = .ok (.istore_n 0, 1) := by decide +kernel
theorem dJ6_numberOfLeadingZeros_0f7a4_48 : decode cJ6_numberOfLeadingZeros_0f7a4 48 = .ok (.iload_n 0, 1) := by decide +kernel
theorem dJ6_numberOfLeadingZeros_0f7a4_49 : decode cJ6_numberOfLeadingZeros_0f7a4 49 = .ok (.bipush 16, 2) := by decide +kernel
theorem dJ6_numberOfLeadingZeros_0f7a4_51 : decode cJ6_numberOfLeadingZeros_0f7a4 51 = .ok (.if_icmp .lt 10, 3) := by decide +kernel
theorem dJ6_numberOfLeadingZeros_0f7a4_54 : decode cJ6_numberOfLeadingZeros_0f7a4 54 = .ok (.iinc 1 (-4), 3) := by decide +kernel
theorem dJ6_numberOfLeadingZeros_0f7a4_57 : decode cJ6_numberOfLeadingZeros_0f7a4 57 = .ok (.iload_n 0, 1) := by decide +kernel
theorem dJ6_numberOfLeadingZeros_0f7a4_58 : decode cJ6_numberOfLeadingZeros_0f7a4 58 = .ok (.iconst 4, 1) := by decide +kernel
theorem dJ6_numberOfLeadingZeros_0f7a4_59 : decode cJ6_numberOfLeadingZeros_0f7a4 59 = .ok (.iushr, 1) := by decide +kernel
theorem dJ6_numberOfLeadingZeros_0f7a4_60 : decode cJ6_numberOfLeadingZeros_0f7a4 60 = .ok (.istore_n 0, 1) := by decide +kernel
theorem dJ6_numberOfLeadingZeros_0f7a4_61 : decode cJ6_numberOfLeadingZeros_0f7a4 61 = .ok (.iload_n 0, 1) := by decide +kernel
theorem dJ6_numberOfLeadingZeros_0f7a4_62 : decode cJ6_numberOfLeadingZeros_0f7a4 62 = .ok (.iconst 4, 1) := by decide +kernel
theorem dJ6_numberOfLeadingZeros_0f7a4_63 : decode cJ6_numberOfLeadingZeros_0f7a4 63 = .ok (.if_icmp .lt 10, 3) := by decide +kernel
theorem dJ6_numberOfLeadingZeros_0f7a4_66 : decode cJ6_numberOfLeadingZeros_0f7a4 66 = .ok (.iinc 1 (-2), 3) := by decide +kernel
theorem dJ6_numberOfLeadingZeros_0f7a4_69 : decode cJ6_numberOfLeadingZeros_0f7a4 69 = .ok (.iload_n 0, 1) := by decide +kernel
theorem dJ6_numberOfLeadingZeros_0f7a4_70 : decode cJ6_numberOfLeadingZeros_0f7a4 70 = .ok (.iconst 2, 1) := by decide +kernel
theorem dJ6_numberOfLeadingZeros_0f7a4_71 : decode cJ6_numberOfLeadingZeros_0f7a4 71 = .ok (.iushr, 1) := by decide +kernel
theorem dJ6_numberOfLeadingZeros_0f7a4_72 : decode cJ6_numberOfLeadingZeros_0f7a4 72 = .ok (.istore_n 0, 1) := by decide +kernel
theorem dJ6_numberOfLeadingZeros_0f7a4_73 : decode cJ6_numberOfLeadingZeros_0f7a4 73 = .ok (.iload_n 1, 1) := by decide +kernel
theorem dJ6_numberOfLeadingZeros_0f7a4_74 : decode cJ6_numberOfLeadingZeros_0f7a4 74 = .ok (.iload_n 0, 1) := by decide +kernel
theorem dJ6_numberOfLeadingZeros_0f7a4_75 : decode cJ6_numberOfLeadingZeros_0f7a4 75 = .ok (.iconst 1, 1) := by decide +kernel
theorem dJ6_numberOfLeadingZeros_0f7a4_76 : decode cJ6_numberOfLeadingZeros_0f7a4 76 = .ok (.iushr, 1) := by decide +kernel
theorem dJ6_numberOfLeadingZeros_0f7a4_77 : decode cJ6_numberOfLeadingZeros_0f7a4 77 = .ok (.isub, 1) := by decide +kernel
theorem dJ6_numberOfLeadingZeros_0f7a4_78 : decode cJ6_numberOfLeadingZeros_0f7a4 78 = .ok (.ireturn, 1) := by decide +kernel
theorem dJ6_numberOfTrailingZeros_0f7a4_0 : decode cJ6_numberOfTrailingZeros_0f7a4 0 = .ok (.iload_n 0, 1) := by decide +kernel
theorem dJ6_numberOfTrailingZeros_0f7a4_1 : decode cJ6_numberOfTrailingZeros_0f7a4 1 = .ok (.iconst (-1), 1) := by decide +kernel
theorem dJ6_numberOfTrailingZeros_0f7a4_2 : decode cJ6_numberOfTrailingZeros_0f7a4 2 = .ok (.ixor, 1) := by decide +kernel
theorem dJ6_numberOfTrailingZeros_0f7a4_3 : decode cJ6_numberOfTrailingZeros_0f7a4 3 = .ok (.iload_n 0, 1) := by decide +kernel
theorem dJ6_numberOfTrailingZeros_0f7a4_4 : decode cJ6_numberOfTrailingZeros_0f7a4 4 = .ok (.iconst 1, 1) := by decide +kernel
theorem dJ6_numberOfTrailingZeros_0f7a4_5 : decode cJ6_numberOfTrailingZeros_0f7a4 5 = .ok (.isub, 1) := by decide +kernel
theorem dJ6_numberOfTrailingZeros_0f7a4_6 : decode cJ6_numberOfTrailingZeros_0f7a4 6 = .ok (.iand, 1) := by decide +kernel
theorem dJ6_numberOfTrailingZeros_0f7a4_7 : decode cJ6_numberOfTrailingZeros_0f7a4 7 = .ok (.istore_n 0, 1) := by decide +kernel
theorem dJ6_numberOfTrailingZeros_0f7a4_8 : decode cJ6_numberOfTrailingZeros_0f7a4 8 = .ok (.iload_n 0, 1) := by decide +kernel
theorem dJ6_numberOfTrailingZeros_0f7a4_9 : decode cJ6_numberOfTrailingZeros_0f7a4 9 = .ok (.ifCond .gt 8, 3) := by decide +kernel
theorem dJ6_numberOfTrailingZeros_0f7a4_12 : decode cJ6_numberOfTrailingZeros_0f7a4 12 = .ok (.iload_n 0, 1) := by decide +kernel
theorem dJ6_numberOfTrailingZeros_0f7a4_13 : decode cJ6_numberOfTrailingZeros_0f7a4 13 = .ok (.bipush 32, 2) := by decide +kernel
theorem dJ6_numberOfTrailingZeros_0f7a4_15 : decode cJ6_numberOfTrailingZeros_0f7a4 15 = .ok (.iand, 1) := by decide +kernel
theorem dJ6_numberOfTrailingZeros_0f7a4_16 : decode cJ6_numberOfTrailingZeros_0f7a4 16 = .ok (.ireturn, 1) := by decide +kernel
theorem dJ6_numberOfTrailingZeros_0f7a4_17 : decode cJ6_numberOfTrailingZeros_0f7a4 17 = .ok (.iconst 1, 1) := by decide +kernel
theorem dJ6_numberOfTrailingZeros_0f7a4_18 : decode cJ6_numberOfTrailingZeros_0f7a4 18 = .ok (.istore_n 1, 1) := by decide +kernel
theorem dJ6_numberOfTrailingZeros_0f7a4_19 : decode cJ6_numberOfTrailingZeros_0f7a4 19 = .ok (.iload_n 0, 1) := by decide +kernel
theorem dJ6_numberOfTrailingZeros_0f7a4_20 : decode cJ6_numberOfTrailingZeros_0f7a4 20 = .ok (.ldc_w 264, 3) := by decide +kernel
theorem dJ6_numberOfTrailingZeros_0f7a4_23 : decode cJ6_numberOfTrailingZeros_0f7a4 23 = .ok (.if_icmp .le 11, 3) := by decide +kernel
theorem dJ6_numberOfTrailingZeros_0f7a4_26 : decode cJ6_numberOfTrailingZeros_0f7a4 26 = .ok (.iinc 1 16, 3) := by decide +kernel
theorem dJ6_numberOfTrailingZeros_0f7a4_29 : decode cJ6_numberOfTrailingZeros_0f7a4 29 = .ok (.iload_n 0, 1) := by decide +kernel
theorem dJ6_numberOfTrailingZeros_0f7a4_30 : decode cJ6_numberOfTrailingZeros_0f7a4 30 = .ok (.bipush 16, 2) := by decide +kernel
theorem dJ6_numberOfTrailingZeros_0f7a4_32 : decode cJ6_numberOfTrailingZeros_0f7a4 32 = .ok (.iushr, 1) := by decide +kernel
theorem dJ6_numberOfTrailingZeros_0f7a4_33 : decode cJ6_numberOfTrailingZeros_0f7a4 33 = .ok (.istore_n 0, 1) := by decide +kernel
theorem dJ6_numberOfTrailingZeros_0f7a4_34 : decode cJ6_numberOfTrailingZeros_0f7a4 34 = .ok (.iload_n 0, 1) := by decide +kernel
theorem dJ6_numberOfTrailingZeros_0f7a4_35 : decode cJ6_numberOfTrailingZeros_0f7a4 35 = .ok (.sipush 256, 3) := by decide +kernel
theorem dJ6_numberOfTrailingZeros_0f7a4_38 : decode cJ6_numberOfTrailingZeros_0f7a4 38 = .ok (.if_icmp .le 11, 3) := by decide +kernel
theorem dJ6_numberOfTrailingZeros_0f7a4_41 : decode cJ6_numberOfTrailingZeros_0f7a4 41 = .ok (.iinc 1 8, 3) := by decide +kernel
theorem dJ6_numberOfTrailingZeros_0f7a4_44 : decode cJ6_numberOfTrailingZeros_0f7a4 44 = .ok (.iload_n 0, 1) := by decide +kernel
theorem dJ6_numberOfTrailingZeros_0f7a4_45 : decode cJ6_numberOfTrailingZeros_0f7a4 45 = .ok (.bipush 8, 2) := by decide +kernel
theorem dJ6_numberOfTrailingZeros_0f7a4_47 : decode cJ6_numberOfTrailingZeros_0f7a4 47 = .ok (.iushr, 1) := by decide +kernel
theorem dJ6_numberOfTrailingZeros_0f7a4_48 : decode cJ6_numberOfTrailingZeros_0f7a4 48 = .ok (.istore_n 0, 1) := by decide +kernel
theorem dJ6_numberOfTrailingZeros_0f7a4_49 : decode cJ6_numberOfTrailingZeros_0f7a4 49 = .ok (.iload_n 0, 1) := by decide +kernel
theorem dJ6_numberOfTrailingZeros_0f7a4_50 : decode cJ6_numberOfTrailingZeros_0f7a4 50 = .ok (.bipush 16, 2) := by decide +kernel
theorem dJ6_numberOfTrailingZeros_0f7a4_52 : decode cJ6_numberOfTrailingZeros_0f7a4 52 = .ok (.if_icmp .le 10, 3) := by decide +kernel
theorem dJ6_numberOfTrailingZeros_0f7a4_55 : decode cJ6_numberOfTrailingZeros_0f7a4 55 = .ok (.iinc 1 4, 3) := by decide +kernel
theorem dJ6_numberOfTrailingZeros_0f7a4_58 : decode cJ6_numberOfTrailingZeros_0f7a4 58 = .ok (.iload_n 0, 1) := by decide +kernel
theorem dJ6_numberOfTrailingZeros_0f7a4_59 : decode cJ6_numberOfTrailingZeros_0f7a4 59 = .ok (.iconst 4, 1) := by decide +kernel
theorem dJ6_numberOfTrailingZeros_0f7a4_60 : decode cJ6_numberOfTrailingZeros_0f7a4 60 = .ok (.iushr, 1) := by decide +kernel
theorem dJ6_numberOfTrailingZeros_0f7a4_61 : decode cJ6_numberOfTrailingZeros_0f7a4 61 = .ok (.istore_n 0, 1) := by decide +kernel
theorem dJ6_numberOfTrailingZeros_0f7a4_62 : decode cJ6_numberOfTrailingZeros_0f7a4 62 = .ok (.iload_n 0, 1) := by decide +kernel
theorem dJ6_numberOfTrailingZeros_0f7a4_63 : decode cJ6_numberOfTrailingZeros_0f7a4 63 = .ok (.iconst 4, 1) := by decide +kernel
theorem dJ6_numberOfTrailingZeros_0f7a4_64 : decode cJ6_numberOfTrailingZeros_0f7a4 64 = .ok (.if_icmp .le 10, 3) := by decide +kernel
theorem dJ6_numberOfTrailingZeros_0f7a4_67 : decode cJ6_numberOfTrailingZeros_0f7a4 67 = .ok (.iinc 1 2, 3) := by decide +kernel
theorem dJ6_numberOfTrailingZeros_0f7a4_70 : decode cJ6_numberOfTrailingZeros_0f7a4 70 = .ok (.iload_n 0, 1) := by decide +kernel
theorem dJ6_numberOfTrailingZeros_0f7a4_71 : decode cJ6_numberOfTrailingZeros_0f7a4 71 = .ok (.iconst 2, 1) := by decide +kernel
theorem dJ6_numberOfTrailingZeros_0f7a4_72 : decode cJ6_numberOfTrailingZeros_0f7a4 72 = .ok (.iushr, 1) := by decide +kernel
theorem dJ6_numberOfTrailingZeros_0f7a4_73 : decode cJ6_numberOfTrailingZeros_0f7a4 73 = .ok (.istore_n 0, 1) := by decide +kernel
theorem dJ6_numberOfTrailingZeros_0f7a4_74 : decode cJ6_numberOfTrailingZeros_0f7a4 74 = .ok (.iload_n 1, 1) := by decide +kernel
theorem dJ6_numberOfTrailingZeros_0f7a4_75 : decode cJ6_numberOfTrailingZeros_0f7a4 75 = .ok (.iload_n 0, 1) := by decide +kernel
theorem dJ6_numberOfTrailingZeros_0f7a4_76 : decode cJ6_numberOfTrailingZeros_0f7a4 76 = .ok (.iconst 1, 1) := by decide +kernel
theorem dJ6_numberOfTrailingZeros_0f7a4_77 : decode cJ6_numberOfTrailingZeros_0f7a4 77 = .ok (.iushr, 1) := by decide +kernel
theorem dJ6_numberOfTrailingZeros_0f7a4_78 : decode cJ6_numberOfTrailingZeros_0f7a4 78 = .ok (.iadd, 1) := by decide +kernel
theorem dJ6_numberOfTrailingZeros_0f7a4_79 : decode cJ6_numberOfTrailingZeros_0f7a4 79 = .ok (.ireturn, 1) := by decide +kernel
theorem dJ6_bitCount_0f7a4_0 : decode cJ6_bitCount_0f7a4 0 = .ok (.iload_n 0, 1) := by decide +kernel
theorem dJ6_bitCount_0f7a4_1 : decode cJ6_bitCount_0f7a4 1 = .ok (.iload_n 0, 1) := by decide +kernel
theorem dJ6_bitCount_0f7a4_2 : decode cJ6_bitCount_0f7a4 2 = .ok (.iconst 1, 1) := by decide +kernel
theorem dJ6_bitCount_0f7a4_3 : decode cJ6_bitCount_0f7a4 3 = .ok (.iushr, 1) := by decide +kernel
theorem dJ6_bitCount_0f7a4_4 : decode cJ6_bitCount_0f7a4 4 = .ok (.ldc_w 265, 3) := by decide +kernel
theorem dJ6_bitCount_0f7a4_7 : decode cJ6_bitCount_0f7a4 7 = .ok (.iand, 1) := by decide +kernel
theorem dJ6_bitCount_0f7a4_8 : decode cJ6_bitCount_0f7a4 8 = .ok (.isub, 1) := by decide +kernel
theorem dJ6_bitCount_0f7a4_9 : decode cJ6_bitCount_0f7a4 9 = .ok (.istore_n 0, 1) := by decide +kernel
theorem dJ6_bitCount_0f7a4_10 : decode cJ6_bitCount_0f7a4 10 = .ok (.iload_n 0, 1) := by decide +kernel
theorem dJ6_bitCount_0f7a4_11 : decode cJ6_bitCount_0f7a4 11 = .ok (.ldc_w 266, 3) := by decide +kernel
theorem dJ6_bitCount_0f7a4_14 : decode cJ6_bitCount_0f7a4 14 = .ok (.iand, 1) := by decide +kernel
theorem dJ6_bitCount_0f7a4_15 : decode cJ6_bitCount_0f7a4 15 = .ok (.iload_n 0, 1) := by decide +kernel
theorem dJ6_bitCount_0f7a4_16 : decode cJ6_bitCount_0f7a4 16 = .ok (.iconst 2, 1) := by decide +kernel
theorem dJ6_bitCount_0f7a4_17 : decode cJ6_bitCount_0f7a4 17 = .ok (.iushr, 1) := by decide +kernel
theorem dJ6_bitCount_0f7a4_18 : decode cJ6_bitCount_0f7a4 18 = .ok (.ldc_w 266, 3) := by decide +kernel
theorem dJ6_bitCount_0f7a4_21 : decode cJ6_bitCount_0f7a4 21 = .ok (.iand, 1) := by decide +kernel
theorem dJ6_bitCount_0f7a4_22 : decode cJ6_bitCount_0f7a4 22 = .ok (.iadd, 1) := by decide +kernel
theorem dJ6_bitCount_0f7a4_23 : decode cJ6_bitCount_0f7a4 23 = .ok (.istore_n 0, 1) := by decide +kernel
theorem dJ6_bitCount_0f7a4_24 : decode cJ6_bitCount_0f7a4 24 = .ok (.iload_n 0, 1) := by decide +kernel
theorem dJ6_bitCount_0f7a4_25 : decode cJ6_bitCount_0f7a4 25 = .ok (.iload_n 0, 1) := by decide +kernel
theorem dJ6_bitCount_0f7a4_26 : decode cJ6_bitCount_0f7a4 26 = .ok (.iconst 4, 1) := by decide +kernel
theorem dJ6_bitCount_0f7a4_27 : decode cJ6_bitCount_0f7a4 27 = .ok (.iushr, 1) := by decide +kernel
theorem dJ6_bitCount_0f7a4_28 : decode cJ6_bitCount_0f7a4 28 = .ok (.iadd, 1) := by decide +kernel
theorem dJ6_bitCount_0f7a4_29 : decode cJ6_bitCount_0f7a4 29 = .ok (.ldc_w 267, 3) := by decide +kernel
theorem dJ6_bitCount_0f7a4_32 : decode cJ6_bitCount_0f7a4 32 = .ok (.iand, 1) := by decide +kernel
theorem dJ6_bitCount_0f7a4_33 : decode cJ6_bitCount_0f7a4 33 = .ok (.istore_n 0, 1) := by decide +kernel
theorem dJ6_bitCount_0f7a4_34 : decode cJ6_bitCount_0f7a4 34 = .ok (.iload_n 0, 1) := by decide +kernel
theorem dJ6_bitCount_0f7a4_35 : decode cJ6_bitCount_0f7a4 35 = .ok (.iload_n 0, 1) := by decide +kernel
theorem dJ6_bitCount_0f7a4_36 : decode cJ6_bitCount_0f7a4 36 = .ok (.bipush 8, 2) := by decide +kernel
theorem dJ6_bitCount_0f7a4_38 : decode cJ6_bitCount_0f7a4 38 = .ok (.iushr, 1) := by decide +kernel
theorem dJ6_bitCount_0f7a4_39 : decode cJ6_bitCount_0f7a4 39 = .ok (.iadd, 1) := by decide +kernel
theorem dJ6_bitCount_0f7a4_40 : decode cJ6_bitCount_0f7a4 40 = .ok (.istore_n 0, 1) := by decide +kernel
theorem dJ6_bitCount_0f7a4_41 : decode cJ6_bitCount_0f7a4 41 = .ok (.iload_n 0, 1) := by decide +kernel
theorem dJ6_bitCount_0f7a4_42 : decode cJ6_bitCount_0f7a4 42 = .ok (.iload_n 0, 1) := by decide +kernel
theorem dJ6_bitCount_0f7a4_43 : decode cJ6_bitCount_0f7a4 43 = .ok (.bipush 16, 2) := by decide +kernel
theorem dJ6_bitCount_0f7a4_45 : decode cJ6_bitCount_0f7a4 45 = .ok (.iushr, 1) := by decide +kernel
theorem dJ6_bitCount_0f7a4_46 : decode cJ6_bitCount_0f7a4 46 = .ok (.iadd, 1) := by decide +kernel
theorem dJ6_bitCount_0f7a4_47 : decode cJ6_bitCount_0f7a4 47 = .ok (.istore_n 0, 1) := by decide +kernel
theorem dJ6_bitCount_0f7a4_48 : decode cJ6_bitCount_0f7a4 48 = .ok (.iload_n 0, 1) := by decide +kernel
theorem dJ6_bitCount_0f7a4_49 : decode cJ6_bitCount_0f7a4 49 = .ok (.bipush 63, 2) := by decide +kernel
theorem dJ6_bitCount_0f7a4_51 : decode cJ6_bitCount_0f7a4 51 = .ok (.iand, 1) := by decide +kernel
theorem dJ6_bitCount_0f7a4_52 : decode cJ6_bitCount_0f7a4 52 = .ok (.ireturn, 1) := by decide +kernel
theorem dJ9_abs_067f4_0 : decode cJ9_abs_067f4 0 = .ok (.lload_n 0, 1) := by decide +kernel
theorem dJ9_abs_067f4_1 : decode cJ9_abs_067f4 1 = .ok (.lconst 0, 1) := by decide +kernel
theorem dJ9_abs_067f4_2 : decode cJ9_abs_067f4 2 = .ok (.lcmp, 1) := by decide +kernel
theorem dJ9_abs_067f4_3 : decode cJ9_abs_067f4 3 = .ok (.ifCond .ge 8, 3) := by decide +kernel
theorem dJ9_abs_067f4_6 : decode cJ9_abs_067f4 6 = .ok (.lload_n 0, 1) := by decide +kernel
theorem dJ9_abs_067f4_7 : decode cJ9_abs_067f4 7 = .ok (.lneg, 1) := by decide +kernel
theorem dJ9_abs_067f4_8 : decode cJ9_abs_067f4 8 = .ok (.goto 4, 3) := by decide +kernel
theorem dJ9_abs_067f4_11 : decode cJ9_abs_067f4 11 = .ok (.lload_n 0, 1) := by decide +kernel
theorem dJ9_abs_067f4_12 : decode cJ9_abs_067f4 12 = .ok (.lreturn, 1) := by decide +kernel
theorem dJ9_max_7cf53_0 : decode cJ9_max_7cf53 0 = .ok (.iload_n 0, 1) := by decide +kernel
theorem dJ9_max_7cf53_1 : decode cJ9_max_7cf53 1 = .ok (.iload_n 1, 1) := by decide +kernel
theorem dJ9_max_7cf53_2 : decode cJ9_max_7cf53 2 = .ok (.if_icmp .lt 7, 3) := by decide +kernel
theorem dJ9_max_7cf53_5 : decode cJ9_max_7cf53 5 = .ok (.iload_n 0, 1) := by decide +kernel
theorem dJ9_max_7cf53_6 : decode cJ9_max_7cf53 6 = .ok (.goto 4, 3) := by decide +kernel
theorem dJ9_max_7cf53_9 : decode cJ9_max_7cf53 9 = .ok (.iload_n 1, 1) := by decide +kernel
theorem dJ9_max_7cf53_10 : decode cJ9_max_7cf53 10 = .ok (.ireturn, 1) := by decide +kernel
theorem dJ9_max_f86c9_0 : decode cJ9_max_f86c9 0 = .ok (.lload_n 0, 1) := by decide +kernel
theorem dJ9_max_f86c9_1 : decode cJ9_max_f86c9 1 = .ok (.lload_n 2, 1) := by decide +kernel
theorem dJ9_max_f86c9_2 : decode cJ9_max_f86c9 2 = .ok (.lcmp, 1) := by decide +kernel
theorem dJ9_max_f86c9_3 : decode cJ9_max_f86c9 3 = .ok (.ifCond .lt 7, 3) := by decide +kernel
theorem dJ9_max_f86c9_6 : decode cJ9_max_f86c9 6 = .ok (.lload_n 0, 1) := by decide +kernel
theorem dJ9_max_f86c9_7 : decode cJ9_max_f86c9 7 = .ok (.goto 4, 3) := by decide +kernel
theorem dJ9_max_f86c9_10 : decode cJ9_max_f86c9 10 = .ok (.lload_n 2, 1) := by decide +kernel
theorem dJ9_max_f86c9_11 : decode cJ9_max_f86c9 11 = .ok (.lreturn, 1) := by decide +kernel
theorem dJ9_min_7cf53_0 : decode cJ9_min_7cf53 0 = .ok (.iload_n 0, 1) := by decide +kernel
theorem dJ9_min_7cf53_1 : decode cJ9_min_7cf53 1 = .ok (.iload_n 1, 1) := by decide +kernel
theorem dJ9_min_7cf53_2 : decode cJ9_min_7cf53 2 = .ok (.if_icmp .gt 7, 3) := by decide +kernel
theorem dJ9_min_7cf53_5 : decode cJ9_min_7cf53 5 = .ok (.iload_n 0, 1) := by decide +kernel
theorem dJ9_min_7cf53_6 : decode cJ9_min_7cf53 6 = .ok (.goto 4, 3) := by decide +kernel
theorem dJ9_min_7cf53_9 : decode cJ9_min_7cf53 9 = .ok (.iload_n 1, 1) := by decide +kernel
theorem dJ9_min_7cf53_10 : decode cJ9_min_7cf53 10 = .ok (.ireturn, 1) := by decide +kernel
theorem dJ0_length_8abf5_0 : decode cJ0_length_8abf5 0 = .ok (.aload_n 0, 1) := by decide +kernel
theorem dJ0_length_8abf5_1 : decode cJ0_length_8abf5 1 = .ok (.getfield 9, 3) := by decide +kernel
theorem dJ0_length_8abf5_4 : decode cJ0_length_8abf5 4 = .ok (.arraylength, 1) := by decide +kernel
theorem dJ0_length_8abf5_5 : decode cJ0_length_8abf5 5 = .ok (.aload_n 0, 1) := by decide +kernel
theorem dJ0_length_8abf5_6 : decode cJ0_length_8abf5 6 = .ok (.invokevirtual 335, 3) := by decide +kernel
theorem dJ0_length_8abf5_9 : decode cJ0_length_8abf5 9 = .ok (.ishr, 1) := by decide +kernel
theorem dJ0_length_8abf5_10 : decode cJ0_length_8abf5 10 = .ok (.ireturn, 1) := by decide +kernel
theorem dJ0_charAt_5068e_0 : decode cJ0_charAt_5068e 0 = .ok (.aload_n 0, 1) := by decide +kernel
theorem dJ0_charAt_5068e_1 : decode cJ0_charAt_5068e 1 = .ok (.invokevirtual 492, 3) := by decide +kernel
theorem dJ0_charAt_5068e_4 : decode cJ0_charAt_5068e 4 = .ok (.ifCond .eq 12, 3) := by decide +kernel
theorem dJ0_charAt_5068e_7 : decode cJ0_charAt_5068e 7 = .ok (.aload_n 0, 1) := by decide +kernel
theorem dJ0_charAt_5068e_8 : decode cJ0_charAt_5068e 8 = .ok (.getfield 9, 3) := by decide +kernel
theorem dJ0_charAt_5068e_11 : decode cJ0_charAt_5068e 11 = .ok (.iload_n 1, 1) := by decide +kernel
theorem dJ0_charAt_5068e_12 : decode cJ0_charAt_5068e 12 = .ok (.invokestatic 495, 3) := by decide +kernel
theorem dJ0_charAt_5068e_15 : decode cJ0_charAt_5068e 15 = .ok (.ireturn, 1) := by decide +kernel
theorem dJ0_charAt_5068e_16 : decode cJ0_charAt_5068e 16 = .ok (.aload_n 0, 1) := by decide +kernel
theorem dJ0_charAt_5068e_17 : decode cJ0_charAt_5068e 17 = .ok (.getfield 9, 3) := by decide +kernel
theorem dJ0_charAt_5068e_20 : decode cJ0_charAt_5068e 20 = .ok (.iload_n 1, 1) := by decide +kernel
theorem dJ0_charAt_5068e_21 : decode cJ0_charAt_5068e 21 = .ok (.invokestatic 498, 3) := by decide +kernel
theorem dJ0_charAt_5068e_24 : decode cJ0_charAt_5068e 24 = .ok (.ireturn, 1) := by decide +kernel
theorem dJ0_coder_7d493_0 : decode cJ0_coder_7d493 0 = .ok (.getstatic 38, 3) := by decide +kernel
theorem dJ0_coder_7d493_3 : decode cJ0_coder_7d493 3 = .ok (.ifCond .eq 10, 3) := by decide +kernel
theorem dJ0_coder_7d493_6 : decode cJ0_coder_7d493 6 = .ok (.aload_n 0, 1) := by decide +kernel
theorem dJ0_coder_7d493_7 : decode cJ0_coder_7d493 7 = .ok (.getfield 15, 3) := by decide +kernel
theorem dJ0_coder_7d493_10 : decode cJ0_coder_7d493 10 = .ok (.goto 4, 3) := by decide +kernel
theorem dJ0_coder_7d493_13 : decode cJ0_coder_7d493 13 = .ok (.iconst 1, 1) := by decide +kernel
theorem dJ0_coder_7d493_14 : decode cJ0_coder_7d493 14 = .ok (.ireturn, 1) := by decide +kernel
theorem dJ0_isLatin1_aae02_0 : decode cJ0_isLatin1_aae02 0 = .ok (.getstatic 38, 3) := by decide +kernel
theorem dJ0_isLatin1_aae02_3 : decode cJ0_isLatin1_aae02 3 = .ok (.ifCond .eq 14, 3) := by decide +kernel
theorem dJ0_isLatin1_aae02_6 : decode cJ0_isLatin1_aae02 6 = .ok (.aload_n 0, 1) := by decide +kernel
theorem dJ0_isLatin1_aae02_7 : decode cJ0_isLatin1_aae02 7 = .ok (.getfield 15, 3) := by decide +kernel
theorem dJ0_isLatin1_aae02_10 : decode cJ0_isLatin1_aae02 10 = .ok (.ifCond .ne 7, 3) := by decide +kernel
theorem dJ0_isLatin1_aae02_13 : decode cJ0_isLatin1_aae02 13 = .ok (.iconst 1, 1) := by decide +kernel
theorem dJ0_isLatin1_aae02_14 : decode cJ0_isLatin1_aae02 14 = .ok (.goto 4, 3) := by decide +kernel
theorem dJ0_isLatin1_aae02_17 : decode cJ0_isLatin1_aae02 17 = .ok (.iconst 0, 1) := by decide +kernel
theorem dJ0_isLatin1_aae02_18 : decode cJ0_isLatin1_aae02 18 = .ok (.ireturn, 1) := by decide +kernel
theorem dJ0_checkIndex_df160_0 : decode cJ0_checkIndex_df160 0 = .ok (.iload_n 0, 1) := by decide +kernel
theorem dJ0_checkIndex_df160_1 : decode cJ0_checkIndex_df160 1 = .ok (.iload_n 1, 1) := by decide +kernel
theorem dJ0_checkIndex_df160_2 : decode cJ0_checkIndex_df160 2 = .ok (.getstatic 1053, 3) := by decide +kernel
theorem dJ0_checkIndex_df160_5 : decode cJ0_checkIndex_df160 5 = .ok (.invokestatic 1059, 3) := by decide +kernel
theorem dJ0_checkIndex_df160_8 : decode cJ0_checkIndex_df160 8 = .ok (.pop, 1) := by decide +kernel
theorem dJ0_checkIndex_df160_9 : decode cJ0_checkIndex_df160 9 = .ok (.return_, 1) := by decide +kernel
theorem dJ1_charAt_3b067_0 : decode cJ1_charAt_3b067 0 = .ok (.iload_n 1, 1) := by decide +kernel
theorem dJ1_charAt_3b067_1 : decode cJ1_charAt_3b067 1 = .ok (.aload_n 0, 1) := by decide +kernel
theorem dJ1_charAt_3b067_2 : decode cJ1_charAt_3b067 2 = .ok (.arraylength, 1) := by decide +kernel
theorem dJ1_charAt_3b067_3 : decode cJ1_charAt_3b067 3 = .ok (.invokestatic 9, 3) := by decide +kernel
theorem dJ1_charAt_3b067_6 : decode cJ1_charAt_3b067 6 = .ok (.aload_n 0, 1) := by decide +kernel
theorem dJ1_charAt_3b067_7 : decode cJ1_charAt_3b067 7 = .ok (.iload_n 1, 1) := by decide +kernel
theorem dJ1_charAt_3b067_8 : decode cJ1_charAt_3b067 8 = .ok (.baload, 1) := by decide +kernel
theorem dJ1_charAt_3b067_9 : decode cJ1_charAt_3b067 9 = .ok (.sipush 255, 3) := by decide +kernel
theorem dJ1_charAt_3b067_12 : decode cJ1_charAt_3b067 12 = .ok (.iand, 1) := by decide +kernel
theorem dJ1_charAt_3b067_13 : decode cJ1_charAt_3b067 13 = .ok (.i2c, 1) := by decide +kernel
theorem dJ1_charAt_3b067_14 : decode cJ1_charAt_3b067 14 = .ok (.ireturn, 1) := by decide +kernel
theorem dJ2_getChar_3b067_0 : decode cJ2_getChar_3b067 0 = .ok (.getstatic 44, 3) := by decide +kernel
theorem dJ2_getChar_3b067_3 : decode cJ2_getChar_3b067 3 = .ok (.ifCond .ne 25, 3) := by decide +kernel
theorem dJ2_getChar_3b067_6 : decode cJ2_getChar_3b067 6 = .ok (.iload_n 1, 1) := by decide +kernel
theorem dJ2_getChar_3b067_7 : decode cJ2_getChar_3b067 7 = .ok (.ifCond .lt 11, 3) := by decide +kernel
theorem dJ2_getChar_3b067_10 : decode cJ2_getChar_3b067 10 = .ok (.iload_n 1, 1) := by decide +kernel
theorem dJ2_getChar_3b067_11 : decode cJ2_getChar_3b067 11 = .ok (.aload_n 0, 1) := by decide +kernel
theorem dJ2_getChar_3b067_12 : decode cJ2_getChar_3b067 12 = .ok (.invokestatic 48, 3) := by decide +kernel
theorem dJ2_getChar_3b067_15 : decode cJ2_getChar_3b067 15 = .ok (.if_icmp .lt 13, 3) := by decide +kernel
theorem dJ2_getChar_3b067_18 : decode cJ2_getChar_3b067 18 = .ok (.new 52, 3) := by decide +kernel
theorem dJ2_getChar_3b067_21 : decode cJ2_getChar_3b067 21 = .ok (.dup, 1) := by decide +kernel
theorem dJ2_getChar_3b067_22 : decode cJ2_getChar_3b067 22 = .ok (.ldc 54, 2) := by decide +kernel
theorem dJ2_getChar_3b067_24 : decode cJ2_getChar_3b067 24 = .ok (.invokespecial 56, 3) := by decide +kernel
theorem dJ2_getChar_3b067_27 : decode cJ2_getChar_3b067 27 = .ok (.athrow, 1) := by decide +kernel
theorem dJ2_getChar_3b067_28 : decode cJ2_getChar_3b067 28 = .ok (.iload_n 1, 1) := by decide +kernel
theorem dJ2_getChar_3b067_29 : decode cJ2_getChar_3b067 29 = .ok (.iconst 1, 1) := by decide +kernel
theorem dJ2_getChar_3b067_30 : decode cJ2_getChar_3b067 30 = .ok (.ishl, 1) := by decide +kernel
theorem dJ2_getChar_3b067_31 : decode cJ2_getChar_3b067 31 = .ok (.istore_n 1, 1) := by decide +kernel
theorem dJ2_getChar_3b067_32 : decode cJ2_getChar_3b067 32 = .ok (.aload_n 0, 1) := by decide +kernel
theorem dJ2_getChar_3b067_33 : decode cJ2_getChar_3b067 33 = .ok (.iload_n 1, 1) := by decide +kernel
theorem dJ2_getChar_3b067_34 : decode cJ2_getChar_3b067 34 = .ok (.iinc 1 1, 3) := by decide +kernel
theorem dJ2_getChar_3b067_37 : decode cJ2_getChar_3b067 37 = .ok (.baload, 1) := by decide +kernel
theorem dJ2_getChar_3b067_38 : decode cJ2_getChar_3b067 38 = .ok (.sipush 255, 3) := by decide +kernel
theorem dJ2_getChar_3b067_41 : decode cJ2_getChar_3b067 41 = .ok (.iand, 1) := by decide +kernel
theorem dJ2_getChar_3b067_42 : decode cJ2_getChar_3b067 42 = .ok (.getstatic 59, 3) := by decide +kernel
theorem dJ2_getChar_3b067_45 : decode cJ2_getChar_3b067 45 = .ok (.ishl, 1) := by decide +kernel
theorem dJ2_getChar_3b067_46 : decode cJ2_getChar_3b067 46 = .ok (.aload_n 0, 1) := by decide +kernel
theorem dJ2_getChar_3b067_47 : decode cJ2_getChar_3b067 47 = .ok (.iload_n 1, 1) := by decide +kernel
theorem dJ2_getChar_3b067_48 : decode cJ2_getChar_3b067 48 = .ok (.baload, 1) := by decide +kernel
theorem dJ2_getChar_3b067_49 : decode cJ2_getChar_3b067 49 = .ok (.sipush 255, 3) := by decide +kernel
theorem dJ2_getChar_3b067_52 : decode cJ2_getChar_3b067 52 = .ok (.iand, 1) := by decide +kernel
theorem dJ2_getChar_3b067_53 : decode cJ2_getChar_3b067 53 = .ok (.getstatic 63, 3) := by decide +kernel
theorem dJ2_getChar_3b067_56 : decode cJ2_getChar_3b067 56 = .ok (.ishl, 1) := by decide +kernel
theorem dJ2_getChar_3b067_57 : decode cJ2_getChar_3b067 57 = .ok (.ior, 1) := by decide +kernel
theorem dJ2_getChar_3b067_58 : decode cJ2_getChar_3b067 58 = .ok (.i2c, 1) := by decide +kernel
theorem dJ2_getChar_3b067_59 : decode cJ2_getChar_3b067 59 = .ok (.ireturn, 1) := by decide +kernel
theorem dJ2_length_9d52b_0 : decode cJ2_length_9d52b 0 = .ok (.aload_n 0, 1) := by decide +kernel
theorem dJ2_length_9d52b_1 : decode cJ2_length_9d52b 1 = .ok (.arraylength, 1) := by decide +kernel
theorem dJ2_length_9d52b_2 : decode cJ2_length_9d52b 2 = .ok (.iconst 1, 1) := by decide +kernel
theorem dJ2_length_9d52b_3 : decode cJ2_length_9d52b 3 = .ok (.ishr, 1) := by decide +kernel
theorem dJ2_length_9d52b_4 : decode cJ2_length_9d52b 4 = .ok (.ireturn, 1) := by decide +kernel
theorem dJ2_charAt_3b067_0 : decode cJ2_charAt_3b067 0 = .ok (.iload_n 1, 1) := by decide +kernel
theorem dJ2_charAt_3b067_1 : decode cJ2_charAt_3b067 1 = .ok (.aload_n 0, 1) := by decide +kernel
theorem dJ2_charAt_3b067_2 : decode cJ2_charAt_3b067 2 = .ok (.invokestatic 67, 3) := by decide +kernel
theorem dJ2_charAt_3b067_5 : decode cJ2_charAt_3b067 5 = .ok (.aload_n 0, 1) := by decide +kernel
theorem dJ2_charAt_3b067_6 : decode cJ2_charAt_3b067 6 = .ok (.iload_n 1, 1) := by decide +kernel
theorem dJ2_charAt_3b067_7 : decode cJ2_charAt_3b067 7 = .ok (.invokestatic 71, 3) := by decide +kernel
theorem dJ2_charAt_3b067_10 : decode cJ2_charAt_3b067 10 = .ok (.ireturn, 1) := by decide +kernel
theorem dJ2_checkIndex_2214a_0 : decode cJ2_checkIndex_2214a 0 = .ok (.iload_n 0, 1) := by decide +kernel
theorem dJ2_checkIndex_2214a_1 : decode cJ2_checkIndex_2214a 1 = .ok (.aload_n 1, 1) := by decide +kernel
theorem dJ2_checkIndex_2214a_2 : decode cJ2_checkIndex_2214a 2 = .ok (.invokestatic 48, 3) := by decide +kernel
theorem dJ2_checkIndex_2214a_5 : decode cJ2_checkIndex_2214a 5 = .ok (.invokestatic 414, 3) := by decide +kernel
theorem dJ2_checkIndex_2214a_8 : decode cJ2_checkIndex_2214a 8 = .ok (.return_, 1) := by decide +kernel
theorem dJ7_fill_d0a16_0 : decode cJ7_fill_d0a16 0 = .ok (.iconst 0, 1) := by decide +kernel
theorem dJ7_fill_d0a16_1 : decode cJ7_fill_d0a16 1 = .ok (.istore_n 3, 1) := by decide +kernel
theorem dJ7_fill_d0a16_2 : decode cJ7_fill_d0a16 2 = .ok (.aload_n 0, 1) := by decide +kernel
theorem dJ7_fill_d0a16_3 : decode cJ7_fill_d0a16 3 = .ok (.arraylength, 1) := by decide +kernel
theorem dJ7_fill_d0a16_4 : decode cJ7_fill_d0a16 4 = .ok (.istore 4, 2) := by decide +kernel
theorem dJ7_fill_d0a16_6 : decode cJ7_fill_d0a16 6 = .ok (.iload_n 3, 1) := by decide +kernel
theorem dJ7_fill_d0a16_7 : decode cJ7_fill_d0a16 7 = .ok (.iload 4, 2) := by decide +kernel
theorem dJ7_fill_d0a16_9 : decode cJ7_fill_d0a16 9 = .ok (.if_icmp .ge 13, 3) := by decide +kernel
theorem dJ7_fill_d0a16_12 : decode cJ7_fill_d0a16 12 = .ok (.aload_n 0, 1) := by decide +kernel
theorem dJ7_fill_d0a16_13 : decode cJ7_fill_d0a16 13 = .ok (.iload_n 3, 1) := by decide +kernel
theorem dJ7_fill_d0a16_14 : decode cJ7_fill_d0a16 14 = .ok (.lload_n 1, 1) := by decide +kernel
theorem dJ7_fill_d0a16_15 : decode cJ7_fill_d0a16 15 = .ok (.lastore, 1) := by decide +kernel
theorem dJ7_fill_d0a16_16 : decode cJ7_fill_d0a16 16 = .ok (.iinc 3 1, 3) := by decide +kernel
theorem dJ7_fill_d0a16_19 : decode cJ7_fill_d0a16 19 = .ok (.goto (-13), 3) := by decide +kernel
theorem dJ7_fill_d0a16_22 : decode cJ7_fill_d0a16 22 = .ok (.return_, 1) := by decide +kernel
theorem dJ7_fill_53178_0 : decode cJ7_fill_53178 0 = .ok (.iconst 0, 1) := by decide +kernel
theorem dJ7_fill_53178_1 : decode cJ7_fill_53178 1 = .ok (.istore_n 2, 1) := by decide +kernel
theorem dJ7_fill_53178_2 : decode cJ7_fill_53178 2 = .ok (.aload_n 0, 1) := by decide +kernel
theorem dJ7_fill_53178_3 : decode cJ7_fill_53178 3 = .ok (.arraylength, 1) := by decide +kernel
theorem dJ7_fill_53178_4 : decode cJ7_fill_53178 4 = .ok (.istore_n 3, 1) := by decide +kernel
theorem dJ7_fill_53178_5 : decode cJ7_fill_53178 5 = .ok (.iload_n 2, 1) := by decide +kernel
theorem dJ7_fill_53178_6 : decode cJ7_fill_53178 6 = .ok (.iload_n 3, 1) := by decide +kernel
theorem dJ7_fill_53178_7 : decode cJ7_fill_53178 7 = .ok (.if_icmp .ge 13, 3) := by decide +kernel
theorem dJ7_fill_53178_10 : decode cJ7_fill_53178 10 = .ok (.aload_n 0, 1) := by decide +kernel
theorem dJ7_fill_53178_11 : decode cJ7_fill_53178 11 = .ok (.iload_n 2, 1) := by decide +kernel
theorem dJ7_fill_53178_12 : decode cJ7_fill_53178 12 = .ok (.iload_n 1, 1) := by decide +kernel
theorem dJ7_fill_53178_13 : decode cJ7_fill_53178 13 = .ok (.iastore, 1) := by decide +kernel
theorem dJ7_fill_53178_14 : decode cJ7_fill_53178 14 = .ok (.iinc 2 1, 3) := by decide +kernel
theorem dJ7_fill_53178_17 : decode cJ7_fill_53178 17 = .ok (.goto (-12), 3) := by decide +kernel
theorem dJ7_fill_53178_20 : decode cJ7_fill_53178 20 = .ok (.return_, 1) := by decide +kernel
theorem dJ3_checkIndex_8e157_0 : decode cJ3_checkIndex_8e157 0 = .ok (.iload_n 0, 1) := by decide +kernel
theorem dJ3_checkIndex_8e157_1 : decode cJ3_checkIndex_8e157 1 = .ok (.ifCond .lt 8, 3) := by decide +kernel
theorem dJ3_checkIndex_8e157_4 : decode cJ3_checkIndex_8e157 4 = .ok (.iload_n 0, 1) := by decide +kernel
theorem dJ3_checkIndex_8e157_5 : decode cJ3_checkIndex_8e157 5 = .ok (.iload_n 1, 1) := by decide +kernel
theorem dJ3_checkIndex_8e157_6 : decode cJ3_checkIndex_8e157 6 = .ok (.if_icmp .lt 10, 3) := by decide +kernel
theorem dJ3_checkIndex_8e157_9 : decode cJ3_checkIndex_8e157 9 = .ok (.aload_n 2, 1) := by decide +kernel
theorem dJ3_checkIndex_8e157_10 : decode cJ3_checkIndex_8e157 10 = .ok (.iload_n 0, 1) := by decide +kernel
theorem dJ3_checkIndex_8e157_11 : decode cJ3_checkIndex_8e157 11 = .ok (.iload_n 1, 1) := by decide +kernel
theorem dJ3_checkIndex_8e157_12 : decode cJ3_checkIndex_8e157 12 = .ok (.invokestatic 95, 3) := by decide +kernel
theorem dJ3_checkIndex_8e157_15 : decode cJ3_checkIndex_8e157 15 = .ok (.athrow, 1) := by decide +kernel
theorem dJ3_checkIndex_8e157_16 : decode cJ3_checkIndex_8e157 16 = .ok (.iload_n 0, 1) := by decide +kernel
theorem dJ3_checkIndex_8e157_17 : decode cJ3_checkIndex_8e157 17 = .ok (.ireturn, 1) := by decide +kernel
theorem dL_law_0 : decode cL_law 0 = .ok (.new 7, 3) := by decide +kernel
theorem dL_law_3 : decode cL_law 3 = .ok (.dup, 1) := by decide +kernel
theorem dL_law_4 : decode cL_law 4 = .ok (.invokespecial 9, 3) := by decide +kernel
theorem dL_law_7 : decode cL_law 7 = .ok (.astore_n 1, 1) := by decide +kernel
theorem dL_law_8 : decode cL_law 8 = .ok (.new 10, 3) := by decide +kernel
theorem dL_law_11 : decode cL_law 11 = .ok (.dup, 1) := by decide +kernel
theorem dL_law_12 : decode cL_law 12 = .ok (.invokespecial 12, 3) := by decide +kernel
theorem dL_law_15 : decode cL_law 15 = .ok (.astore_n 2, 1) := by decide +kernel
theorem dL_law_16 : decode cL_law 16 = .ok (.iconst 0, 1) := by decide +kernel
theorem dL_law_17 : decode cL_law 17 = .ok (.istore_n 3, 1) := by decide +kernel
theorem dL_law_18 : decode cL_law 18 = .ok (.iload_n 3, 1) := by decide +kernel
theorem dL_law_19 : decode cL_law 19 = .ok (.aload_n 0, 1) := by decide +kernel
theorem dL_law_20 : decode cL_law 20 = .ok (.arraylength, 1) := by decide +kernel
theorem dL_law_21 : decode cL_law 21 = .ok (.bipush 6, 2) := by decide +kernel
theorem dL_law_23 : decode cL_law 23 = .ok (.isub, 1) := by decide +kernel
theorem dL_law_24 : decode cL_law 24 = .ok (.if_icmp .gt 1515, 3) := by decide +kernel
theorem dL_law_27 : decode cL_law 27 = .ok (.aload_n 0, 1) := by decide +kernel
theorem dL_law_28 : decode cL_law 28 = .ok (.iload_n 3, 1) := by decide +kernel
theorem dL_law_29 : decode cL_law 29 = .ok (.iaload, 1) := by decide +kernel
theorem dL_law_30 : decode cL_law 30 = .ok (.bipush 63, 2) := by decide +kernel
theorem dL_law_32 : decode cL_law 32 = .ok (.iand, 1) := by decide +kernel
theorem dL_law_33 : decode cL_law 33 = .ok (.tableswitch 1500 0 45 #[199, 212, 226, 240, 283, 356, 390, 453, 516, 539, 562, 585, 608, 641, 674, 707, 740, 763, 796, 819, 852, 875, 888, 921, 944, 977, 1000, 1023, 1046, 1069, 1092, 1135, 1148, 1171, 1194, 1237, 1270, 1303, 1326, 1349, 1382, 1395, 1418, 1441, 1474, 1487], 199) := by decide +kernel
theorem dL_law_232 : decode cL_law 232 = .ok (.aload_n 1, 1) := by decide +kernel
theorem dL_law_233 : decode cL_law 233 = .ok (.invokevirtual 13, 3) := by decide +kernel
theorem dL_law_236 : decode cL_law 236 = .ok (.aload_n 2, 1) := by decide +kernel
theorem dL_law_237 : decode cL_law 237 = .ok (.invokevirtual 17, 3) := by decide +kernel
theorem dL_law_240 : decode cL_law 240 = .ok (.if_icmp .eq 1293, 3) := by decide +kernel
theorem dL_law_243 : decode cL_law 243 = .ok (.iconst 0, 1) := by decide +kernel
theorem dL_law_244 : decode cL_law 244 = .ok (.ireturn, 1) := by decide +kernel
theorem dL_law_245 : decode cL_law 245 = .ok (.aload_n 1, 1) := by decide +kernel
theorem dL_law_246 : decode cL_law 246 = .ok (.invokevirtual 18, 3) := by decide +kernel
theorem dL_law_249 : decode cL_law 249 = .ok (.aload_n 2, 1) := by decide +kernel
theorem dL_law_250 : decode cL_law 250 = .ok (.invokevirtual 22, 3) := by decide +kernel
theorem dL_law_253 : decode cL_law 253 = .ok (.lcmp, 1) := by decide +kernel
theorem dL_law_254 : decode cL_law 254 = .ok (.ifCond .eq 1279, 3) := by decide +kernel
theorem dL_law_257 : decode cL_law 257 = .ok (.iconst 0, 1) := by decide +kernel
theorem dL_law_258 : decode cL_law 258 = .ok (.ireturn, 1) := by decide +kernel
theorem dL_law_259 : decode cL_law 259 = .ok (.aload_n 1, 1) := by decide +kernel
theorem dL_law_260 : decode cL_law 260 = .ok (.invokevirtual 23, 3) := by decide +kernel
theorem dL_law_263 : decode cL_law 263 = .ok (.aload_n 2, 1) := by decide +kernel
theorem dL_law_264 : decode cL_law 264 = .ok (.invokevirtual 26, 3) := by decide +kernel
theorem dL_law_267 : decode cL_law 267 = .ok (.lcmp, 1) := by decide +kernel
theorem dL_law_268 : decode cL_law 268 = .ok (.ifCond .eq 1265, 3) := by decide +kernel
theorem dL_law_271 : decode cL_law 271 = .ok (.iconst 0, 1) := by decide +kernel
theorem dL_law_272 : decode cL_law 272 = .ok (.ireturn, 1) := by decide +kernel
theorem dL_law_273 : decode cL_law 273 = .ok (.aload_n 1, 1) := by decide +kernel
theorem dL_law_274 : decode cL_law 274 = .ok (.aload_n 0, 1) := by decide +kernel
theorem dL_law_275 : decode cL_law 275 = .ok (.iload_n 3, 1) := by decide +kernel
theorem dL_law_276 : decode cL_law 276 = .ok (.iconst 1, 1) := by decide +kernel
theorem dL_law_277 : decode cL_law 277 = .ok (.iadd, 1) := by decide +kernel
theorem dL_law_278 : decode cL_law 278 = .ok (.iaload, 1) := by decide +kernel
theorem dL_law_279 : decode cL_law 279 = .ok (.aload_n 0, 1) := by decide +kernel
theorem dL_law_280 : decode cL_law 280 = .ok (.iload_n 3, 1) := by decide +kernel
theorem dL_law_281 : decode cL_law 281 = .ok (.iconst 2, 1) := by decide +kernel
theorem dL_law_282 : decode cL_law 282 = .ok (.iadd, 1) := by decide +kernel
theorem dL_law_283 : decode cL_law 283 = .ok (.iaload, 1) := by decide +kernel
theorem dL_law_284 : decode cL_law 284 = .ok (.aload_n 0, 1) := by decide +kernel
theorem dL_law_285 : decode cL_law 285 = .ok (.iload_n 3, 1) := by decide +kernel
theorem dL_law_286 : decode cL_law 286 = .ok (.iconst 3, 1) := by decide +kernel
theorem dL_law_287 : decode cL_law 287 = .ok (.iadd, 1) := by decide +kernel
theorem dL_law_288 : decode cL_law 288 = .ok (.iaload, 1) := by decide +kernel
theorem dL_law_289 : decode cL_law 289 = .ok (.invokevirtual 27, 3) := by decide +kernel
theorem dL_law_292 : decode cL_law 292 = .ok (.aload_n 2, 1) := by decide +kernel
theorem dL_law_293 : decode cL_law 293 = .ok (.aload_n 0, 1) := by decide +kernel
theorem dL_law_294 : decode cL_law 294 = .ok (.iload_n 3, 1) := by decide +kernel
theorem dL_law_295 : decode cL_law 295 = .ok (.iconst 1, 1) := by decide +kernel
theorem dL_law_296 : decode cL_law 296 = .ok (.iadd, 1) := by decide +kernel
theorem dL_law_297 : decode cL_law 297 = .ok (.iaload, 1) := by decide +kernel
theorem dL_law_298 : decode cL_law 298 = .ok (.aload_n 0, 1) := by decide +kernel
theorem dL_law_299 : decode cL_law 299 = .ok (.iload_n 3, 1) := by decide +kernel
theorem dL_law_300 : decode cL_law 300 = .ok (.iconst 2, 1) := by decide +kernel
theorem dL_law_301 : decode cL_law 301 = .ok (.iadd, 1) := by decide +kernel
theorem dL_law_302 : decode cL_law 302 = .ok (.iaload, 1) := by decide +kernel
theorem dL_law_303 : decode cL_law 303 = .ok (.aload_n 0, 1) := by decide +kernel
theorem dL_law_304 : decode cL_law 304 = .ok (.iload_n 3, 1) := by decide +kernel
theorem dL_law_305 : decode cL_law 305 = .ok (.iconst 3, 1) := by decide +kernel
theorem dL_law_306 : decode cL_law 306 = .ok (.iadd, 1) := by decide +kernel
theorem dL_law_307 : decode cL_law 307 = .ok (.iaload, 1) := by decide +kernel
theorem dL_law_308 : decode cL_law 308 = .ok (.invokevirtual 31, 3) := by decide +kernel
theorem dL_law_311 : decode cL_law 311 = .ok (.if_icmp .eq 1222, 3) := by decide +kernel
theorem dL_law_314 : decode cL_law 314 = .ok (.iconst 0, 1) := by decide +kernel
theorem dL_law_315 : decode cL_law 315 = .ok (.ireturn, 1) := by decide +kernel
theorem dL_law_316 : decode cL_law 316 = .ok (.aload_n 1, 1) := by decide +kernel
theorem dL_law_317 : decode cL_law 317 = .ok (.aload_n 0, 1) := by decide +kernel
theorem dL_law_318 : decode cL_law 318 = .ok (.iload_n 3, 1) := by decide +kernel
theorem dL_law_319 : decode cL_law 319 = .ok (.iconst 1, 1) := by decide +kernel
theorem dL_law_320 : decode cL_law 320 = .ok (.iadd, 1) := by decide +kernel
theorem dL_law_321 : decode cL_law 321 = .ok (.iaload, 1) := by decide +kernel
theorem dL_law_322 : decode cL_law 322 = .ok (.aload_n 0, 1) := by decide +kernel
theorem dL_law_323 : decode cL_law 323 = .ok (.iload_n 3, 1) := by decide +kernel
theorem dL_law_324 : decode cL_law 324 = .ok (.iconst 2, 1) := by decide +kernel
theorem dL_law_325 : decode cL_law 325 = .ok (.iadd, 1) := by decide +kernel
theorem dL_law_326 : decode cL_law 326 = .ok (.iaload, 1) := by decide +kernel
theorem dL_law_327 : decode cL_law 327 = .ok (.aload_n 0, 1) := by decide +kernel
theorem dL_law_328 : decode cL_law 328 = .ok (.iload_n 3, 1) := by decide +kernel
theorem dL_law_329 : decode cL_law 329 = .ok (.iconst 3, 1) := by decide +kernel
theorem dL_law_330 : decode cL_law 330 = .ok (.iadd, 1) := by decide +kernel
theorem dL_law_331 : decode cL_law 331 = .ok (.iaload, 1) := by decide +kernel
theorem dL_law_332 : decode cL_law 332 = .ok (.i2l, 1) := by decide +kernel
theorem dL_law_333 : decode cL_law 333 = .ok (.bipush 32, 2) := by decide +kernel
theorem dL_law_335 : decode cL_law 335 = .ok (.lshl, 1) := by decide +kernel
theorem dL_law_336 : decode cL_law 336 = .ok (.aload_n 0, 1) := by decide +kernel
theorem dL_law_337 : decode cL_law 337 = .ok (.iload_n 3, 1) := by decide +kernel
theorem dL_law_338 : decode cL_law 338 = .ok (.iconst 4, 1) := by decide +kernel
theorem dL_law_339 : decode cL_law 339 = .ok (.iadd, 1) := by decide +kernel
theorem dL_law_340 : decode cL_law 340 = .ok (.iaload, 1) := by decide +kernel
theorem dL_law_341 : decode cL_law 341 = .ok (.i2l, 1) := by decide +kernel
theorem dL_law_342 : decode cL_law 342 = .ok (.ldc2_w 32, 3) := by decide +kernel
theorem dL_law_345 : decode cL_law 345 = .ok (.land, 1) := by decide +kernel
theorem dL_law_346 : decode cL_law 346 = .ok (.lor, 1) := by decide +kernel
theorem dL_law_347 : decode cL_law 347 = .ok (.invokevirtual 34, 3) := by decide +kernel
theorem dL_law_350 : decode cL_law 350 = .ok (.aload_n 2, 1) := by decide +kernel
theorem dL_law_351 : decode cL_law 351 = .ok (.aload_n 0, 1) := by decide +kernel
theorem dL_law_352 : decode cL_law 352 = .ok (.iload_n 3, 1) := by decide +kernel
theorem dL_law_353 : decode cL_law 353 = .ok (.iconst 1, 1) := by decide +kernel
theorem dL_law_354 : decode cL_law 354 = .ok (.iadd, 1) := by decide +kernel
theorem dL_law_355 : decode cL_law 355 = .ok (.iaload, 1) := by decide +kernel
theorem dL_law_356 : decode cL_law 356 = .ok (.aload_n 0, 1) := by decide +kernel
theorem dL_law_357 : decode cL_law 357 = .ok (.iload_n 3, 1) := by decide +kernel
theorem dL_law_358 : decode cL_law 358 = .ok (.iconst 2, 1) := by decide +kernel
theorem dL_law_359 : decode cL_law 359 = .ok (.iadd, 1) := by decide +kernel
theorem dL_law_360 : decode cL_law 360 = .ok (.iaload, 1) := by decide +kernel
theorem dL_law_361 : decode cL_law 361 = .ok (.aload_n 0, 1) := by decide +kernel
theorem dL_law_362 : decode cL_law 362 = .ok (.iload_n 3, 1) := by decide +kernel
theorem dL_law_363 : decode cL_law 363 = .ok (.iconst 3, 1) := by decide +kernel
theorem dL_law_364 : decode cL_law 364 = .ok (.iadd, 1) := by decide +kernel
theorem dL_law_365 : decode cL_law 365 = .ok (.iaload, 1) := by decide +kernel
theorem dL_law_366 : decode cL_law 366 = .ok (.i2l, 1) := by decide +kernel
theorem dL_law_367 : decode cL_law 367 = .ok (.bipush 32, 2) := by decide +kernel
theorem dL_law_369 : decode cL_law 369 = .ok (.lshl, 1) := by decide +kernel
theorem dL_law_370 : decode cL_law 370 = .ok (.aload_n 0, 1) := by decide +kernel
theorem dL_law_371 : decode cL_law 371 = .ok (.iload_n 3, 1) := by decide +kernel
theorem dL_law_372 : decode cL_law 372 = .ok (.iconst 4, 1) := by decide +kernel
theorem dL_law_373 : decode cL_law 373 = .ok (.iadd, 1) := by decide +kernel
theorem dL_law_374 : decode cL_law 374 = .ok (.iaload, 1) := by decide +kernel
theorem dL_law_375 : decode cL_law 375 = .ok (.i2l, 1) := by decide +kernel
theorem dL_law_376 : decode cL_law 376 = .ok (.ldc2_w 32, 3) := by decide +kernel
theorem dL_law_379 : decode cL_law 379 = .ok (.land, 1) := by decide +kernel
theorem dL_law_380 : decode cL_law 380 = .ok (.lor, 1) := by decide +kernel
theorem dL_law_381 : decode cL_law 381 = .ok (.invokevirtual 38, 3) := by decide +kernel
theorem dL_law_384 : decode cL_law 384 = .ok (.if_icmp .eq 1149, 3) := by decide +kernel
theorem dL_law_387 : decode cL_law 387 = .ok (.iconst 0, 1) := by decide +kernel
theorem dL_law_388 : decode cL_law 388 = .ok (.ireturn, 1) := by decide +kernel
theorem dL_law_389 : decode cL_law 389 = .ok (.aload_n 1, 1) := by decide +kernel
theorem dL_law_390 : decode cL_law 390 = .ok (.aload_n 0, 1) := by decide +kernel
theorem dL_law_391 : decode cL_law 391 = .ok (.iload_n 3, 1) := by decide +kernel
theorem dL_law_392 : decode cL_law 392 = .ok (.iconst 1, 1) := by decide +kernel
theorem dL_law_393 : decode cL_law 393 = .ok (.iadd, 1) := by decide +kernel
theorem dL_law_394 : decode cL_law 394 = .ok (.iaload, 1) := by decide +kernel
theorem dL_law_395 : decode cL_law 395 = .ok (.aload_n 0, 1) := by decide +kernel
theorem dL_law_396 : decode cL_law 396 = .ok (.iload_n 3, 1) := by decide +kernel
theorem dL_law_397 : decode cL_law 397 = .ok (.iconst 2, 1) := by decide +kernel
theorem dL_law_398 : decode cL_law 398 = .ok (.iadd, 1) := by decide +kernel
theorem dL_law_399 : decode cL_law 399 = .ok (.iaload, 1) := by decide +kernel
theorem dL_law_400 : decode cL_law 400 = .ok (.invokevirtual 39, 3) := by decide +kernel
theorem dL_law_403 : decode cL_law 403 = .ok (.aload_n 2, 1) := by decide +kernel
theorem dL_law_404 : decode cL_law 404 = .ok (.aload_n 0, 1) := by decide +kernel
theorem dL_law_405 : decode cL_law 405 = .ok (.iload_n 3, 1) := by decide +kernel
theorem dL_law_406 : decode cL_law 406 = .ok (.iconst 1, 1) := by decide +kernel
theorem dL_law_407 : decode cL_law 407 = .ok (.iadd, 1) := by decide +kernel
theorem dL_law_408 : decode cL_law 408 = .ok (.iaload, 1) := by decide +kernel
theorem dL_law_409 : decode cL_law 409 = .ok (.aload_n 0, 1) := by decide +kernel
theorem dL_law_410 : decode cL_law 410 = .ok (.iload_n 3, 1) := by decide +kernel
theorem dL_law_411 : decode cL_law 411 = .ok (.iconst 2, 1) := by decide +kernel
theorem dL_law_412 : decode cL_law 412 = .ok (.iadd, 1) := by decide +kernel
theorem dL_law_413 : decode cL_law 413 = .ok (.iaload, 1) := by decide +kernel
theorem dL_law_414 : decode cL_law 414 = .ok (.invokevirtual 43, 3) := by decide +kernel
theorem dL_law_417 : decode cL_law 417 = .ok (.lcmp, 1) := by decide +kernel
theorem dL_law_418 : decode cL_law 418 = .ok (.ifCond .eq 1115, 3) := by decide +kernel
theorem dL_law_421 : decode cL_law 421 = .ok (.iconst 0, 1) := by decide +kernel
theorem dL_law_422 : decode cL_law 422 = .ok (.ireturn, 1) := by decide +kernel
theorem dL_law_423 : decode cL_law 423 = .ok (.aload_n 1, 1) := by decide +kernel
theorem dL_law_424 : decode cL_law 424 = .ok (.aload_n 0, 1) := by decide +kernel
theorem dL_law_425 : decode cL_law 425 = .ok (.iload_n 3, 1) := by decide +kernel
theorem dL_law_426 : decode cL_law 426 = .ok (.iconst 1, 1) := by decide +kernel
theorem dL_law_427 : decode cL_law 427 = .ok (.iadd, 1) := by decide +kernel
theorem dL_law_428 : decode cL_law 428 = .ok (.iaload, 1) := by decide +kernel
theorem dL_law_429 : decode cL_law 429 = .ok (.aload_n 0, 1) := by decide +kernel
theorem dL_law_430 : decode cL_law 430 = .ok (.iload_n 3, 1) := by decide +kernel
theorem dL_law_431 : decode cL_law 431 = .ok (.iconst 2, 1) := by decide +kernel
theorem dL_law_432 : decode cL_law 432 = .ok (.iadd, 1) := by decide +kernel
theorem dL_law_433 : decode cL_law 433 = .ok (.iaload, 1) := by decide +kernel
theorem dL_law_434 : decode cL_law 434 = .ok (.aload_n 0, 1) := by decide +kernel
theorem dL_law_435 : decode cL_law 435 = .ok (.iload_n 3, 1) := by decide +kernel
theorem dL_law_436 : decode cL_law 436 = .ok (.iconst 3, 1) := by decide +kernel
theorem dL_law_437 : decode cL_law 437 = .ok (.iadd, 1) := by decide +kernel
theorem dL_law_438 : decode cL_law 438 = .ok (.iaload, 1) := by decide +kernel
theorem dL_law_439 : decode cL_law 439 = .ok (.aload_n 0, 1) := by decide +kernel
theorem dL_law_440 : decode cL_law 440 = .ok (.iload_n 3, 1) := by decide +kernel
theorem dL_law_441 : decode cL_law 441 = .ok (.iconst 4, 1) := by decide +kernel
theorem dL_law_442 : decode cL_law 442 = .ok (.iadd, 1) := by decide +kernel
theorem dL_law_443 : decode cL_law 443 = .ok (.iaload, 1) := by decide +kernel
theorem dL_law_444 : decode cL_law 444 = .ok (.aload_n 0, 1) := by decide +kernel
theorem dL_law_445 : decode cL_law 445 = .ok (.iload_n 3, 1) := by decide +kernel
theorem dL_law_446 : decode cL_law 446 = .ok (.iconst 5, 1) := by decide +kernel
theorem dL_law_447 : decode cL_law 447 = .ok (.iadd, 1) := by decide +kernel
theorem dL_law_448 : decode cL_law 448 = .ok (.iaload, 1) := by decide +kernel
theorem dL_law_449 : decode cL_law 449 = .ok (.invokevirtual 44, 3) := by decide +kernel
theorem dL_law_452 : decode cL_law 452 = .ok (.aload_n 2, 1) := by decide +kernel
theorem dL_law_453 : decode cL_law 453 = .ok (.aload_n 0, 1) := by decide +kernel
theorem dL_law_454 : decode cL_law 454 = .ok (.iload_n 3, 1) := by decide +kernel
theorem dL_law_455 : decode cL_law 455 = .ok (.iconst 1, 1) := by decide +kernel
theorem dL_law_456 : decode cL_law 456 = .ok (.iadd, 1) := by decide +kernel
theorem dL_law_457 : decode cL_law 457 = .ok (.iaload, 1) := by decide +kernel
theorem dL_law_458 : decode cL_law 458 = .ok (.aload_n 0, 1) := by decide +kernel
theorem dL_law_459 : decode cL_law 459 = .ok (.iload_n 3, 1) := by decide +kernel
theorem dL_law_460 : decode cL_law 460 = .ok (.iconst 2, 1) := by decide +kernel
theorem dL_law_461 : decode cL_law 461 = .ok (.iadd, 1) := by decide +kernel
theorem dL_law_462 : decode cL_law 462 = .ok (.iaload, 1) := by decide +kernel
theorem dL_law_463 : decode cL_law 463 = .ok (.aload_n 0, 1) := by decide +kernel
theorem dL_law_464 : decode cL_law 464 = .ok (.iload_n 3, 1) := by decide +kernel
theorem dL_law_465 : decode cL_law 465 = .ok (.iconst 3, 1) := by decide +kernel
theorem dL_law_466 : decode cL_law 466 = .ok (.iadd, 1) := by decide +kernel
theorem dL_law_467 : decode cL_law 467 = .ok (.iaload, 1) := by decide +kernel
theorem dL_law_468 : decode cL_law 468 = .ok (.aload_n 0, 1) := by decide +kernel
theorem dL_law_469 : decode cL_law 469 = .ok (.iload_n 3, 1) := by decide +kernel
theorem dL_law_470 : decode cL_law 470 = .ok (.iconst 4, 1) := by decide +kernel
theorem dL_law_471 : decode cL_law 471 = .ok (.iadd, 1) := by decide +kernel
theorem dL_law_472 : decode cL_law 472 = .ok (.iaload, 1) := by decide +kernel
theorem dL_law_473 : decode cL_law 473 = .ok (.aload_n 0, 1) := by decide +kernel
theorem dL_law_474 : decode cL_law 474 = .ok (.iload_n 3, 1) := by decide +kernel
theorem dL_law_475 : decode cL_law 475 = .ok (.iconst 5, 1) := by decide +kernel
theorem dL_law_476 : decode cL_law 476 = .ok (.iadd, 1) := by decide +kernel
theorem dL_law_477 : decode cL_law 477 = .ok (.iaload, 1) := by decide +kernel
theorem dL_law_478 : decode cL_law 478 = .ok (.invokevirtual 48, 3) := by decide +kernel
theorem dL_law_481 : decode cL_law 481 = .ok (.if_icmp .eq 1052, 3) := by decide +kernel
theorem dL_law_484 : decode cL_law 484 = .ok (.iconst 0, 1) := by decide +kernel
theorem dL_law_485 : decode cL_law 485 = .ok (.ireturn, 1) := by decide +kernel
theorem dL_law_486 : decode cL_law 486 = .ok (.aload_n 1, 1) := by decide +kernel
theorem dL_law_487 : decode cL_law 487 = .ok (.aload_n 0, 1) := by decide +kernel
theorem dL_law_488 : decode cL_law 488 = .ok (.iload_n 3, 1) := by decide +kernel
theorem dL_law_489 : decode cL_law 489 = .ok (.iconst 1, 1) := by decide +kernel
theorem dL_law_490 : decode cL_law 490 = .ok (.iadd, 1) := by decide +kernel
theorem dL_law_491 : decode cL_law 491 = .ok (.iaload, 1) := by decide +kernel
theorem dL_law_492 : decode cL_law 492 = .ok (.aload_n 0, 1) := by decide +kernel
theorem dL_law_493 : decode cL_law 493 = .ok (.iload_n 3, 1) := by decide +kernel
theorem dL_law_494 : decode cL_law 494 = .ok (.iconst 2, 1) := by decide +kernel
theorem dL_law_495 : decode cL_law 495 = .ok (.iadd, 1) := by decide +kernel
theorem dL_law_496 : decode cL_law 496 = .ok (.iaload, 1) := by decide +kernel
theorem dL_law_497 : decode cL_law 497 = .ok (.aload_n 0, 1) := by decide +kernel
theorem dL_law_498 : decode cL_law 498 = .ok (.iload_n 3, 1) := by decide +kernel
theorem dL_law_499 : decode cL_law 499 = .ok (.iconst 3, 1) := by decide +kernel
theorem dL_law_500 : decode cL_law 500 = .ok (.iadd, 1) := by decide +kernel
theorem dL_law_501 : decode cL_law 501 = .ok (.iaload, 1) := by decide +kernel
theorem dL_law_502 : decode cL_law 502 = .ok (.aload_n 0, 1) := by decide +kernel
theorem dL_law_503 : decode cL_law 503 = .ok (.iload_n 3, 1) := by decide +kernel
theorem dL_law_504 : decode cL_law 504 = .ok (.iconst 4, 1) := by decide +kernel
theorem dL_law_505 : decode cL_law 505 = .ok (.iadd, 1) := by decide +kernel
theorem dL_law_506 : decode cL_law 506 = .ok (.iaload, 1) := by decide +kernel
theorem dL_law_507 : decode cL_law 507 = .ok (.aload_n 0, 1) := by decide +kernel
theorem dL_law_508 : decode cL_law 508 = .ok (.iload_n 3, 1) := by decide +kernel
theorem dL_law_509 : decode cL_law 509 = .ok (.iconst 5, 1) := by decide +kernel
theorem dL_law_510 : decode cL_law 510 = .ok (.iadd, 1) := by decide +kernel
theorem dL_law_511 : decode cL_law 511 = .ok (.iaload, 1) := by decide +kernel
theorem dL_law_512 : decode cL_law 512 = .ok (.invokevirtual 49, 3) := by decide +kernel
theorem dL_law_515 : decode cL_law 515 = .ok (.aload_n 2, 1) := by decide +kernel
theorem dL_law_516 : decode cL_law 516 = .ok (.aload_n 0, 1) := by decide +kernel
theorem dL_law_517 : decode cL_law 517 = .ok (.iload_n 3, 1) := by decide +kernel
theorem dL_law_518 : decode cL_law 518 = .ok (.iconst 1, 1) := by decide +kernel
theorem dL_law_519 : decode cL_law 519 = .ok (.iadd, 1) := by decide +kernel
theorem dL_law_520 : decode cL_law 520 = .ok (.iaload, 1) := by decide +kernel
theorem dL_law_521 : decode cL_law 521 = .ok (.aload_n 0, 1) := by decide +kernel
theorem dL_law_522 : decode cL_law 522 = .ok (.iload_n 3, 1) := by decide +kernel
theorem dL_law_523 : decode cL_law 523 = .ok (.iconst 2, 1) := by decide +kernel
theorem dL_law_524 : decode cL_law 524 = .ok (.iadd, 1) := by decide +kernel
theorem dL_law_525 : decode cL_law 525 = .ok (.iaload, 1) := by decide +kernel
theorem dL_law_526 : decode cL_law 526 = .ok (.aload_n 0, 1) := by decide +kernel
theorem dL_law_527 : decode cL_law 527 = .ok (.iload_n 3, 1) := by decide +kernel
theorem dL_law_528 : decode cL_law 528 = .ok (.iconst 3, 1) := by decide +kernel
theorem dL_law_529 : decode cL_law 529 = .ok (.iadd, 1) := by decide +kernel
theorem dL_law_530 : decode cL_law 530 = .ok (.iaload, 1) := by decide +kernel
theorem dL_law_531 : decode cL_law 531 = .ok (.aload_n 0, 1) := by decide +kernel
theorem dL_law_532 : decode cL_law 532 = .ok (.iload_n 3, 1) := by decide +kernel
theorem dL_law_533 : decode cL_law 533 = .ok (.iconst 4, 1) := by decide +kernel
theorem dL_law_534 : decode cL_law 534 = .ok (.iadd, 1) := by decide +kernel
theorem dL_law_535 : decode cL_law 535 = .ok (.iaload, 1) := by decide +kernel
theorem dL_law_536 : decode cL_law 536 = .ok (.aload_n 0, 1) := by decide +kernel
theorem dL_law_537 : decode cL_law 537 = .ok (.iload_n 3, 1) := by decide +kernel
theorem dL_law_538 : decode cL_law 538 = .ok (.iconst 5, 1) := by decide +kernel
theorem dL_law_539 : decode cL_law 539 = .ok (.iadd, 1) := by decide +kernel
theorem dL_law_540 : decode cL_law 540 = .ok (.iaload, 1) := by decide +kernel
theorem dL_law_541 : decode cL_law 541 = .ok (.invokevirtual 53, 3) := by decide +kernel
theorem dL_law_544 : decode cL_law 544 = .ok (.if_icmp .eq 989, 3) := by decide +kernel
theorem dL_law_547 : decode cL_law 547 = .ok (.iconst 0, 1) := by decide +kernel
theorem dL_law_548 : decode cL_law 548 = .ok (.ireturn, 1) := by decide +kernel
theorem dL_law_549 : decode cL_law 549 = .ok (.aload_n 1, 1) := by decide +kernel
theorem dL_law_550 : decode cL_law 550 = .ok (.aload_n 0, 1) := by decide +kernel
theorem dL_law_551 : decode cL_law 551 = .ok (.iload_n 3, 1) := by decide +kernel
theorem dL_law_552 : decode cL_law 552 = .ok (.iconst 1, 1) := by decide +kernel
theorem dL_law_553 : decode cL_law 553 = .ok (.iadd, 1) := by decide +kernel
theorem dL_law_554 : decode cL_law 554 = .ok (.iaload, 1) := by decide +kernel
theorem dL_law_555 : decode cL_law 555 = .ok (.invokevirtual 54, 3) := by decide +kernel
theorem dL_law_558 : decode cL_law 558 = .ok (.aload_n 2, 1) := by decide +kernel
theorem dL_law_559 : decode cL_law 559 = .ok (.aload_n 0, 1) := by decide +kernel
theorem dL_law_560 : decode cL_law 560 = .ok (.iload_n 3, 1) := by decide +kernel
theorem dL_law_561 : decode cL_law 561 = .ok (.iconst 1, 1) := by decide +kernel
theorem dL_law_562 : decode cL_law 562 = .ok (.iadd, 1) := by decide +kernel
theorem dL_law_563 : decode cL_law 563 = .ok (.iaload, 1) := by decide +kernel
theorem dL_law_564 : decode cL_law 564 = .ok (.invokevirtual 58, 3) := by decide +kernel
theorem dL_law_567 : decode cL_law 567 = .ok (.if_icmp .eq 966, 3) := by decide +kernel
theorem dL_law_570 : decode cL_law 570 = .ok (.iconst 0, 1) := by decide +kernel
theorem dL_law_571 : decode cL_law 571 = .ok (.ireturn, 1) := by decide +kernel
theorem dL_law_572 : decode cL_law 572 = .ok (.aload_n 1, 1) := by decide +kernel
theorem dL_law_573 : decode cL_law 573 = .ok (.aload_n 0, 1) := by decide +kernel
theorem dL_law_574 : decode cL_law 574 = .ok (.iload_n 3, 1) := by decide +kernel
theorem dL_law_575 : decode cL_law 575 = .ok (.iconst 1, 1) := by decide +kernel
theorem dL_law_576 : decode cL_law 576 = .ok (.iadd, 1) := by decide +kernel
theorem dL_law_577 : decode cL_law 577 = .ok (.iaload, 1) := by decide +kernel
theorem dL_law_578 : decode cL_law 578 = .ok (.invokevirtual 59, 3) := by decide +kernel
theorem dL_law_581 : decode cL_law 581 = .ok (.aload_n 2, 1) := by decide +kernel
theorem dL_law_582 : decode cL_law 582 = .ok (.aload_n 0, 1) := by decide +kernel
theorem dL_law_583 : decode cL_law 583 = .ok (.iload_n 3, 1) := by decide +kernel
theorem dL_law_584 : decode cL_law 584 = .ok (.iconst 1, 1) := by decide +kernel
theorem dL_law_585 : decode cL_law 585 = .ok (.iadd, 1) := by decide +kernel
theorem dL_law_586 : decode cL_law 586 = .ok (.iaload, 1) := by decide +kernel
theorem dL_law_587 : decode cL_law 587 = .ok (.invokevirtual 62, 3) := by decide +kernel
theorem dL_law_590 : decode cL_law 590 = .ok (.if_icmp .eq 943, 3) := by decide +kernel
theorem dL_law_593 : decode cL_law 593 = .ok (.iconst 0, 1) := by decide +kernel
theorem dL_law_594 : decode cL_law 594 = .ok (.ireturn, 1) := by decide +kernel
theorem dL_law_595 : decode cL_law 595 = .ok (.aload_n 1, 1) := by decide +kernel
theorem dL_law_596 : decode cL_law 596 = .ok (.aload_n 0, 1) := by decide +kernel
theorem dL_law_597 : decode cL_law 597 = .ok (.iload_n 3, 1) := by decide +kernel
theorem dL_law_598 : decode cL_law 598 = .ok (.iconst 1, 1) := by decide +kernel
theorem dL_law_599 : decode cL_law 599 = .ok (.iadd, 1) := by decide +kernel
theorem dL_law_600 : decode cL_law 600 = .ok (.iaload, 1) := by decide +kernel
theorem dL_law_601 : decode cL_law 601 = .ok (.invokevirtual 63, 3) := by decide +kernel
theorem dL_law_604 : decode cL_law 604 = .ok (.aload_n 2, 1) := by decide +kernel
theorem dL_law_605 : decode cL_law 605 = .ok (.aload_n 0, 1) := by decide +kernel
theorem dL_law_606 : decode cL_law 606 = .ok (.iload_n 3, 1) := by decide +kernel
theorem dL_law_607 : decode cL_law 607 = .ok (.iconst 1, 1) := by decide +kernel
theorem dL_law_608 : decode cL_law 608 = .ok (.iadd, 1) := by decide +kernel
theorem dL_law_609 : decode cL_law 609 = .ok (.iaload, 1) := by decide +kernel
theorem dL_law_610 : decode cL_law 610 = .ok (.invokevirtual 66, 3) := by decide +kernel
theorem dL_law_613 : decode cL_law 613 = .ok (.if_icmp .eq 920, 3) := by decide +kernel
theorem dL_law_616 : decode cL_law 616 = .ok (.iconst 0, 1) := by decide +kernel
theorem dL_law_617 : decode cL_law 617 = .ok (.ireturn, 1) := by decide +kernel
theorem dL_law_618 : decode cL_law 618 = .ok (.aload_n 1, 1) := by decide +kernel
theorem dL_law_619 : decode cL_law 619 = .ok (.aload_n 0, 1) := by decide +kernel
theorem dL_law_620 : decode cL_law 620 = .ok (.iload_n 3, 1) := by decide +kernel
theorem dL_law_621 : decode cL_law 621 = .ok (.iconst 1, 1) := by decide +kernel
theorem dL_law_622 : decode cL_law 622 = .ok (.iadd, 1) := by decide +kernel
theorem dL_law_623 : decode cL_law 623 = .ok (.iaload, 1) := by decide +kernel
theorem dL_law_624 : decode cL_law 624 = .ok (.invokevirtual 67, 3) := by decide +kernel
theorem dL_law_627 : decode cL_law 627 = .ok (.aload_n 2, 1) := by decide +kernel
theorem dL_law_628 : decode cL_law 628 = .ok (.aload_n 0, 1) := by decide +kernel
theorem dL_law_629 : decode cL_law 629 = .ok (.iload_n 3, 1) := by decide +kernel
theorem dL_law_630 : decode cL_law 630 = .ok (.iconst 1, 1) := by decide +kernel
theorem dL_law_631 : decode cL_law 631 = .ok (.iadd, 1) := by decide +kernel
theorem dL_law_632 : decode cL_law 632 = .ok (.iaload, 1) := by decide +kernel
theorem dL_law_633 : decode cL_law 633 = .ok (.invokevirtual 70, 3) := by decide +kernel
theorem dL_law_636 : decode cL_law 636 = .ok (.if_icmp .eq 897, 3) := by decide +kernel
theorem dL_law_639 : decode cL_law 639 = .ok (.iconst 0, 1) := by decide +kernel
theorem dL_law_640 : decode cL_law 640 = .ok (.ireturn, 1) := by decide +kernel
theorem dL_law_641 : decode cL_law 641 = .ok (.aload_n 1, 1) := by decide +kernel
theorem dL_law_642 : decode cL_law 642 = .ok (.aload_n 0, 1) := by decide +kernel
theorem dL_law_643 : decode cL_law 643 = .ok (.iload_n 3, 1) := by decide +kernel
theorem dL_law_644 : decode cL_law 644 = .ok (.iconst 1, 1) := by decide +kernel
theorem dL_law_645 : decode cL_law 645 = .ok (.iadd, 1) := by decide +kernel
theorem dL_law_646 : decode cL_law 646 = .ok (.iaload, 1) := by decide +kernel
theorem dL_law_647 : decode cL_law 647 = .ok (.aload_n 0, 1) := by decide +kernel
theorem dL_law_648 : decode cL_law 648 = .ok (.iload_n 3, 1) := by decide +kernel
theorem dL_law_649 : decode cL_law 649 = .ok (.iconst 2, 1) := by decide +kernel
theorem dL_law_650 : decode cL_law 650 = .ok (.iadd, 1) := by decide +kernel
theorem dL_law_651 : decode cL_law 651 = .ok (.iaload, 1) := by decide +kernel
theorem dL_law_652 : decode cL_law 652 = .ok (.invokevirtual 71, 3) := by decide +kernel
theorem dL_law_655 : decode cL_law 655 = .ok (.aload_n 2, 1) := by decide +kernel
theorem dL_law_656 : decode cL_law 656 = .ok (.aload_n 0, 1) := by decide +kernel
theorem dL_law_657 : decode cL_law 657 = .ok (.iload_n 3, 1) := by decide +kernel
theorem dL_law_658 : decode cL_law 658 = .ok (.iconst 1, 1) := by decide +kernel
theorem dL_law_659 : decode cL_law 659 = .ok (.iadd, 1) := by decide +kernel
theorem dL_law_660 : decode cL_law 660 = .ok (.iaload, 1) := by decide +kernel
theorem dL_law_661 : decode cL_law 661 = .ok (.aload_n 0, 1) := by decide +kernel
theorem dL_law_662 : decode cL_law 662 = .ok (.iload_n 3, 1) := by decide +kernel
theorem dL_law_663 : decode cL_law 663 = .ok (.iconst 2, 1) := by decide +kernel
theorem dL_law_664 : decode cL_law 664 = .ok (.iadd, 1) := by decide +kernel
theorem dL_law_665 : decode cL_law 665 = .ok (.iaload, 1) := by decide +kernel
theorem dL_law_666 : decode cL_law 666 = .ok (.invokevirtual 75, 3) := by decide +kernel
theorem dL_law_669 : decode cL_law 669 = .ok (.if_icmp .eq 864, 3) := by decide +kernel
theorem dL_law_672 : decode cL_law 672 = .ok (.iconst 0, 1) := by decide +kernel
theorem dL_law_673 : decode cL_law 673 = .ok (.ireturn, 1) := by decide +kernel
theorem dL_law_674 : decode cL_law 674 = .ok (.aload_n 1, 1) := by decide +kernel
theorem dL_law_675 : decode cL_law 675 = .ok (.aload_n 0, 1) := by decide +kernel
theorem dL_law_676 : decode cL_law 676 = .ok (.iload_n 3, 1) := by decide +kernel
theorem dL_law_677 : decode cL_law 677 = .ok (.iconst 1, 1) := by decide +kernel
theorem dL_law_678 : decode cL_law 678 = .ok (.iadd, 1) := by decide +kernel
theorem dL_law_679 : decode cL_law 679 = .ok (.iaload, 1) := by decide +kernel
theorem dL_law_680 : decode cL_law 680 = .ok (.aload_n 0, 1) := by decide +kernel
theorem dL_law_681 : decode cL_law 681 = .ok (.iload_n 3, 1) := by decide +kernel
theorem dL_law_682 : decode cL_law 682 = .ok (.iconst 2, 1) := by decide +kernel
theorem dL_law_683 : decode cL_law 683 = .ok (.iadd, 1) := by decide +kernel
theorem dL_law_684 : decode cL_law 684 = .ok (.iaload, 1) := by decide +kernel
theorem dL_law_685 : decode cL_law 685 = .ok (.invokevirtual 76, 3) := by decide +kernel
theorem dL_law_688 : decode cL_law 688 = .ok (.aload_n 2, 1) := by decide +kernel
theorem dL_law_689 : decode cL_law 689 = .ok (.aload_n 0, 1) := by decide +kernel
theorem dL_law_690 : decode cL_law 690 = .ok (.iload_n 3, 1) := by decide +kernel
theorem dL_law_691 : decode cL_law 691 = .ok (.iconst 1, 1) := by decide +kernel
theorem dL_law_692 : decode cL_law 692 = .ok (.iadd, 1) := by decide +kernel
theorem dL_law_693 : decode cL_law 693 = .ok (.iaload, 1) := by decide +kernel
theorem dL_law_694 : decode cL_law 694 = .ok (.aload_n 0, 1) := by decide +kernel
theorem dL_law_695 : decode cL_law 695 = .ok (.iload_n 3, 1) := by decide +kernel
theorem dL_law_696 : decode cL_law 696 = .ok (.iconst 2, 1) := by decide +kernel
theorem dL_law_697 : decode cL_law 697 = .ok (.iadd, 1) := by decide +kernel
theorem dL_law_698 : decode cL_law 698 = .ok (.iaload, 1) := by decide +kernel
theorem dL_law_699 : decode cL_law 699 = .ok (.invokevirtual 79, 3) := by decide +kernel
theorem dL_law_702 : decode cL_law 702 = .ok (.if_icmp .eq 831, 3) := by decide +kernel
theorem dL_law_705 : decode cL_law 705 = .ok (.iconst 0, 1) := by decide +kernel
theorem dL_law_706 : decode cL_law 706 = .ok (.ireturn, 1) := by decide +kernel
theorem dL_law_707 : decode cL_law 707 = .ok (.aload_n 1, 1) := by decide +kernel
theorem dL_law_708 : decode cL_law 708 = .ok (.aload_n 0, 1) := by decide +kernel
theorem dL_law_709 : decode cL_law 709 = .ok (.iload_n 3, 1) := by decide +kernel
theorem dL_law_710 : decode cL_law 710 = .ok (.iconst 1, 1) := by decide +kernel
theorem dL_law_711 : decode cL_law 711 = .ok (.iadd, 1) := by decide +kernel
theorem dL_law_712 : decode cL_law 712 = .ok (.iaload, 1) := by decide +kernel
theorem dL_law_713 : decode cL_law 713 = .ok (.aload_n 0, 1) := by decide +kernel
theorem dL_law_714 : decode cL_law 714 = .ok (.iload_n 3, 1) := by decide +kernel
theorem dL_law_715 : decode cL_law 715 = .ok (.iconst 2, 1) := by decide +kernel
theorem dL_law_716 : decode cL_law 716 = .ok (.iadd, 1) := by decide +kernel
theorem dL_law_717 : decode cL_law 717 = .ok (.iaload, 1) := by decide +kernel
theorem dL_law_718 : decode cL_law 718 = .ok (.invokevirtual 80, 3) := by decide +kernel
theorem dL_law_721 : decode cL_law 721 = .ok (.aload_n 2, 1) := by decide +kernel
theorem dL_law_722 : decode cL_law 722 = .ok (.aload_n 0, 1) := by decide +kernel
theorem dL_law_723 : decode cL_law 723 = .ok (.iload_n 3, 1) := by decide +kernel
theorem dL_law_724 : decode cL_law 724 = .ok (.iconst 1, 1) := by decide +kernel
theorem dL_law_725 : decode cL_law 725 = .ok (.iadd, 1) := by decide +kernel
theorem dL_law_726 : decode cL_law 726 = .ok (.iaload, 1) := by decide +kernel
theorem dL_law_727 : decode cL_law 727 = .ok (.aload_n 0, 1) := by decide +kernel
theorem dL_law_728 : decode cL_law 728 = .ok (.iload_n 3, 1) := by decide +kernel
theorem dL_law_729 : decode cL_law 729 = .ok (.iconst 2, 1) := by decide +kernel
theorem dL_law_730 : decode cL_law 730 = .ok (.iadd, 1) := by decide +kernel
theorem dL_law_731 : decode cL_law 731 = .ok (.iaload, 1) := by decide +kernel
theorem dL_law_732 : decode cL_law 732 = .ok (.invokevirtual 83, 3) := by decide +kernel
theorem dL_law_735 : decode cL_law 735 = .ok (.if_icmp .eq 798, 3) := by decide +kernel
theorem dL_law_738 : decode cL_law 738 = .ok (.iconst 0, 1) := by decide +kernel
theorem dL_law_739 : decode cL_law 739 = .ok (.ireturn, 1) := by decide +kernel
theorem dL_law_740 : decode cL_law 740 = .ok (.aload_n 1, 1) := by decide +kernel
theorem dL_law_741 : decode cL_law 741 = .ok (.aload_n 0, 1) := by decide +kernel
theorem dL_law_742 : decode cL_law 742 = .ok (.iload_n 3, 1) := by decide +kernel
theorem dL_law_743 : decode cL_law 743 = .ok (.iconst 1, 1) := by decide +kernel
theorem dL_law_744 : decode cL_law 744 = .ok (.iadd, 1) := by decide +kernel
theorem dL_law_745 : decode cL_law 745 = .ok (.iaload, 1) := by decide +kernel
theorem dL_law_746 : decode cL_law 746 = .ok (.aload_n 0, 1) := by decide +kernel
theorem dL_law_747 : decode cL_law 747 = .ok (.iload_n 3, 1) := by decide +kernel
theorem dL_law_748 : decode cL_law 748 = .ok (.iconst 2, 1) := by decide +kernel
theorem dL_law_749 : decode cL_law 749 = .ok (.iadd, 1) := by decide +kernel
theorem dL_law_750 : decode cL_law 750 = .ok (.iaload, 1) := by decide +kernel
theorem dL_law_751 : decode cL_law 751 = .ok (.invokevirtual 84, 3) := by decide +kernel
theorem dL_law_754 : decode cL_law 754 = .ok (.aload_n 2, 1) := by decide +kernel
theorem dL_law_755 : decode cL_law 755 = .ok (.aload_n 0, 1) := by decide +kernel
theorem dL_law_756 : decode cL_law 756 = .ok (.iload_n 3, 1) := by decide +kernel
theorem dL_law_757 : decode cL_law 757 = .ok (.iconst 1, 1) := by decide +kernel
theorem dL_law_758 : decode cL_law 758 = .ok (.iadd, 1) := by decide +kernel
theorem dL_law_759 : decode cL_law 759 = .ok (.iaload, 1) := by decide +kernel
theorem dL_law_760 : decode cL_law 760 = .ok (.aload_n 0, 1) := by decide +kernel
theorem dL_law_761 : decode cL_law 761 = .ok (.iload_n 3, 1) := by decide +kernel
theorem dL_law_762 : decode cL_law 762 = .ok (.iconst 2, 1) := by decide +kernel
theorem dL_law_763 : decode cL_law 763 = .ok (.iadd, 1) := by decide +kernel
theorem dL_law_764 : decode cL_law 764 = .ok (.iaload, 1) := by decide +kernel
theorem dL_law_765 : decode cL_law 765 = .ok (.invokevirtual 87, 3) := by decide +kernel
theorem dL_law_768 : decode cL_law 768 = .ok (.if_icmp .eq 765, 3) := by decide +kernel
theorem dL_law_771 : decode cL_law 771 = .ok (.iconst 0, 1) := by decide +kernel
theorem dL_law_772 : decode cL_law 772 = .ok (.ireturn, 1) := by decide +kernel
theorem dL_law_773 : decode cL_law 773 = .ok (.aload_n 1, 1) := by decide +kernel
theorem dL_law_774 : decode cL_law 774 = .ok (.aload_n 0, 1) := by decide +kernel
theorem dL_law_775 : decode cL_law 775 = .ok (.iload_n 3, 1) := by decide +kernel
theorem dL_law_776 : decode cL_law 776 = .ok (.iconst 1, 1) := by decide +kernel
theorem dL_law_777 : decode cL_law 777 = .ok (.iadd, 1) := by decide +kernel
theorem dL_law_778 : decode cL_law 778 = .ok (.iaload, 1) := by decide +kernel
theorem dL_law_779 : decode cL_law 779 = .ok (.invokevirtual 88, 3) := by decide +kernel
theorem dL_law_782 : decode cL_law 782 = .ok (.aload_n 2, 1) := by decide +kernel
theorem dL_law_783 : decode cL_law 783 = .ok (.aload_n 0, 1) := by decide +kernel
theorem dL_law_784 : decode cL_law 784 = .ok (.iload_n 3, 1) := by decide +kernel
theorem dL_law_785 : decode cL_law 785 = .ok (.iconst 1, 1) := by decide +kernel
theorem dL_law_786 : decode cL_law 786 = .ok (.iadd, 1) := by decide +kernel
theorem dL_law_787 : decode cL_law 787 = .ok (.iaload, 1) := by decide +kernel
theorem dL_law_788 : decode cL_law 788 = .ok (.invokevirtual 91, 3) := by decide +kernel
theorem dL_law_791 : decode cL_law 791 = .ok (.if_icmp .eq 742, 3) := by decide +kernel
theorem dL_law_794 : decode cL_law 794 = .ok (.iconst 0, 1) := by decide +kernel
theorem dL_law_795 : decode cL_law 795 = .ok (.ireturn, 1) := by decide +kernel
theorem dL_law_796 : decode cL_law 796 = .ok (.aload_n 1, 1) := by decide +kernel
theorem dL_law_797 : decode cL_law 797 = .ok (.aload_n 0, 1) := by decide +kernel
theorem dL_law_798 : decode cL_law 798 = .ok (.iload_n 3, 1) := by decide +kernel
theorem dL_law_799 : decode cL_law 799 = .ok (.iconst 1, 1) := by decide +kernel
theorem dL_law_800 : decode cL_law 800 = .ok (.iadd, 1) := by decide +kernel
theorem dL_law_801 : decode cL_law 801 = .ok (.iaload, 1) := by decide +kernel
theorem dL_law_802 : decode cL_law 802 = .ok (.aload_n 0, 1) := by decide +kernel
theorem dL_law_803 : decode cL_law 803 = .ok (.iload_n 3, 1) := by decide +kernel
theorem dL_law_804 : decode cL_law 804 = .ok (.iconst 2, 1) := by decide +kernel
theorem dL_law_805 : decode cL_law 805 = .ok (.iadd, 1) := by decide +kernel
theorem dL_law_806 : decode cL_law 806 = .ok (.iaload, 1) := by decide +kernel
theorem dL_law_807 : decode cL_law 807 = .ok (.invokevirtual 92, 3) := by decide +kernel
theorem dL_law_810 : decode cL_law 810 = .ok (.aload_n 2, 1) := by decide +kernel
theorem dL_law_811 : decode cL_law 811 = .ok (.aload_n 0, 1) := by decide +kernel
theorem dL_law_812 : decode cL_law 812 = .ok (.iload_n 3, 1) := by decide +kernel
theorem dL_law_813 : decode cL_law 813 = .ok (.iconst 1, 1) := by decide +kernel
theorem dL_law_814 : decode cL_law 814 = .ok (.iadd, 1) := by decide +kernel
theorem dL_law_815 : decode cL_law 815 = .ok (.iaload, 1) := by decide +kernel
theorem dL_law_816 : decode cL_law 816 = .ok (.aload_n 0, 1) := by decide +kernel
theorem dL_law_817 : decode cL_law 817 = .ok (.iload_n 3, 1) := by decide +kernel
theorem dL_law_818 : decode cL_law 818 = .ok (.iconst 2, 1) := by decide +kernel
theorem dL_law_819 : decode cL_law 819 = .ok (.iadd, 1) := by decide +kernel
theorem dL_law_820 : decode cL_law 820 = .ok (.iaload, 1) := by decide +kernel
theorem dL_law_821 : decode cL_law 821 = .ok (.invokevirtual 96, 3) := by decide +kernel
theorem dL_law_824 : decode cL_law 824 = .ok (.if_icmp .eq 709, 3) := by decide +kernel
theorem dL_law_827 : decode cL_law 827 = .ok (.iconst 0, 1) := by decide +kernel
theorem dL_law_828 : decode cL_law 828 = .ok (.ireturn, 1) := by decide +kernel
theorem dL_law_829 : decode cL_law 829 = .ok (.aload_n 1, 1) := by decide +kernel
theorem dL_law_830 : decode cL_law 830 = .ok (.aload_n 0, 1) := by decide +kernel
theorem dL_law_831 : decode cL_law 831 = .ok (.iload_n 3, 1) := by decide +kernel
theorem dL_law_832 : decode cL_law 832 = .ok (.iconst 1, 1) := by decide +kernel
theorem dL_law_833 : decode cL_law 833 = .ok (.iadd, 1) := by decide +kernel
theorem dL_law_834 : decode cL_law 834 = .ok (.iaload, 1) := by decide +kernel
theorem dL_law_835 : decode cL_law 835 = .ok (.invokevirtual 97, 3) := by decide +kernel
theorem dL_law_838 : decode cL_law 838 = .ok (.aload_n 2, 1) := by decide +kernel
theorem dL_law_839 : decode cL_law 839 = .ok (.aload_n 0, 1) := by decide +kernel
theorem dL_law_840 : decode cL_law 840 = .ok (.iload_n 3, 1) := by decide +kernel
theorem dL_law_841 : decode cL_law 841 = .ok (.iconst 1, 1) := by decide +kernel
theorem dL_law_842 : decode cL_law 842 = .ok (.iadd, 1) := by decide +kernel
theorem dL_law_843 : decode cL_law 843 = .ok (.iaload, 1) := by decide +kernel
theorem dL_law_844 : decode cL_law 844 = .ok (.invokevirtual 101, 3) := by decide +kernel
theorem dL_law_847 : decode cL_law 847 = .ok (.if_icmp .eq 686, 3) := by decide +kernel
theorem dL_law_850 : decode cL_law 850 = .ok (.iconst 0, 1) := by decide +kernel
theorem dL_law_851 : decode cL_law 851 = .ok (.ireturn, 1) := by decide +kernel
theorem dL_law_852 : decode cL_law 852 = .ok (.aload_n 1, 1) := by decide +kernel
theorem dL_law_853 : decode cL_law 853 = .ok (.aload_n 0, 1) := by decide +kernel
theorem dL_law_854 : decode cL_law 854 = .ok (.iload_n 3, 1) := by decide +kernel
theorem dL_law_855 : decode cL_law 855 = .ok (.iconst 1, 1) := by decide +kernel
theorem dL_law_856 : decode cL_law 856 = .ok (.iadd, 1) := by decide +kernel
theorem dL_law_857 : decode cL_law 857 = .ok (.iaload, 1) := by decide +kernel
theorem dL_law_858 : decode cL_law 858 = .ok (.aload_n 0, 1) := by decide +kernel
theorem dL_law_859 : decode cL_law 859 = .ok (.iload_n 3, 1) := by decide +kernel
theorem dL_law_860 : decode cL_law 860 = .ok (.iconst 2, 1) := by decide +kernel
theorem dL_law_861 : decode cL_law 861 = .ok (.iadd, 1) := by decide +kernel
theorem dL_law_862 : decode cL_law 862 = .ok (.iaload, 1) := by decide +kernel
theorem dL_law_863 : decode cL_law 863 = .ok (.invokevirtual 102, 3) := by decide +kernel
theorem dL_law_866 : decode cL_law 866 = .ok (.aload_n 2, 1) := by decide +kernel
theorem dL_law_867 : decode cL_law 867 = .ok (.aload_n 0, 1) := by decide +kernel
theorem dL_law_868 : decode cL_law 868 = .ok (.iload_n 3, 1) := by decide +kernel
theorem dL_law_869 : decode cL_law 869 = .ok (.iconst 1, 1) := by decide +kernel
theorem dL_law_870 : decode cL_law 870 = .ok (.iadd, 1) := by decide +kernel
theorem dL_law_871 : decode cL_law 871 = .ok (.iaload, 1) := by decide +kernel
theorem dL_law_872 : decode cL_law 872 = .ok (.aload_n 0, 1) := by decide +kernel
theorem dL_law_873 : decode cL_law 873 = .ok (.iload_n 3, 1) := by decide +kernel
theorem dL_law_874 : decode cL_law 874 = .ok (.iconst 2, 1) := by decide +kernel
theorem dL_law_875 : decode cL_law 875 = .ok (.iadd, 1) := by decide +kernel
theorem dL_law_876 : decode cL_law 876 = .ok (.iaload, 1) := by decide +kernel
theorem dL_law_877 : decode cL_law 877 = .ok (.invokevirtual 105, 3) := by decide +kernel
theorem dL_law_880 : decode cL_law 880 = .ok (.if_icmp .eq 653, 3) := by decide +kernel
theorem dL_law_883 : decode cL_law 883 = .ok (.iconst 0, 1) := by decide +kernel
theorem dL_law_884 : decode cL_law 884 = .ok (.ireturn, 1) := by decide +kernel
theorem dL_law_885 : decode cL_law 885 = .ok (.aload_n 1, 1) := by decide +kernel
theorem dL_law_886 : decode cL_law 886 = .ok (.aload_n 0, 1) := by decide +kernel
theorem dL_law_887 : decode cL_law 887 = .ok (.iload_n 3, 1) := by decide +kernel
theorem dL_law_888 : decode cL_law 888 = .ok (.iconst 1, 1) := by decide +kernel
theorem dL_law_889 : decode cL_law 889 = .ok (.iadd, 1) := by decide +kernel
theorem dL_law_890 : decode cL_law 890 = .ok (.iaload, 1) := by decide +kernel
theorem dL_law_891 : decode cL_law 891 = .ok (.invokevirtual 106, 3) := by decide +kernel
theorem dL_law_894 : decode cL_law 894 = .ok (.aload_n 2, 1) := by decide +kernel
theorem dL_law_895 : decode cL_law 895 = .ok (.aload_n 0, 1) := by decide +kernel
theorem dL_law_896 : decode cL_law 896 = .ok (.iload_n 3, 1) := by decide +kernel
theorem dL_law_897 : decode cL_law 897 = .ok (.iconst 1, 1) := by decide +kernel
theorem dL_law_898 : decode cL_law 898 = .ok (.iadd, 1) := by decide +kernel
theorem dL_law_899 : decode cL_law 899 = .ok (.iaload, 1) := by decide +kernel
theorem dL_law_900 : decode cL_law 900 = .ok (.invokevirtual 109, 3) := by decide +kernel
theorem dL_law_903 : decode cL_law 903 = .ok (.if_icmp .eq 630, 3) := by decide +kernel
theorem dL_law_906 : decode cL_law 906 = .ok (.iconst 0, 1) := by decide +kernel
theorem dL_law_907 : decode cL_law 907 = .ok (.ireturn, 1) := by decide +kernel
theorem dL_law_908 : decode cL_law 908 = .ok (.aload_n 1, 1) := by decide +kernel
theorem dL_law_909 : decode cL_law 909 = .ok (.invokevirtual 110, 3) := by decide +kernel
theorem dL_law_912 : decode cL_law 912 = .ok (.aload_n 2, 1) := by decide +kernel
theorem dL_law_913 : decode cL_law 913 = .ok (.invokevirtual 113, 3) := by decide +kernel
theorem dL_law_916 : decode cL_law 916 = .ok (.if_icmp .eq 617, 3) := by decide +kernel
theorem dL_law_919 : decode cL_law 919 = .ok (.iconst 0, 1) := by decide +kernel
theorem dL_law_920 : decode cL_law 920 = .ok (.ireturn, 1) := by decide +kernel
theorem dL_law_921 : decode cL_law 921 = .ok (.aload_n 1, 1) := by decide +kernel
theorem dL_law_922 : decode cL_law 922 = .ok (.aload_n 0, 1) := by decide +kernel
theorem dL_law_923 : decode cL_law 923 = .ok (.iload_n 3, 1) := by decide +kernel
theorem dL_law_924 : decode cL_law 924 = .ok (.iconst 1, 1) := by decide +kernel
theorem dL_law_925 : decode cL_law 925 = .ok (.iadd, 1) := by decide +kernel
theorem dL_law_926 : decode cL_law 926 = .ok (.iaload, 1) := by decide +kernel
theorem dL_law_927 : decode cL_law 927 = .ok (.aload_n 0, 1) := by decide +kernel
theorem dL_law_928 : decode cL_law 928 = .ok (.iload_n 3, 1) := by decide +kernel
theorem dL_law_929 : decode cL_law 929 = .ok (.iconst 2, 1) := by decide +kernel
theorem dL_law_930 : decode cL_law 930 = .ok (.iadd, 1) := by decide +kernel
theorem dL_law_931 : decode cL_law 931 = .ok (.iaload, 1) := by decide +kernel
theorem dL_law_932 : decode cL_law 932 = .ok (.invokevirtual 114, 3) := by decide +kernel
theorem dL_law_935 : decode cL_law 935 = .ok (.aload_n 2, 1) := by decide +kernel
theorem dL_law_936 : decode cL_law 936 = .ok (.aload_n 0, 1) := by decide +kernel
theorem dL_law_937 : decode cL_law 937 = .ok (.iload_n 3, 1) := by decide +kernel
theorem dL_law_938 : decode cL_law 938 = .ok (.iconst 1, 1) := by decide +kernel
theorem dL_law_939 : decode cL_law 939 = .ok (.iadd, 1) := by decide +kernel
theorem dL_law_940 : decode cL_law 940 = .ok (.iaload, 1) := by decide +kernel
theorem dL_law_941 : decode cL_law 941 = .ok (.aload_n 0, 1) := by decide +kernel
theorem dL_law_942 : decode cL_law 942 = .ok (.iload_n 3, 1) := by decide +kernel
theorem dL_law_943 : decode cL_law 943 = .ok (.iconst 2, 1) := by decide +kernel
theorem dL_law_944 : decode cL_law 944 = .ok (.iadd, 1) := by decide +kernel
theorem dL_law_945 : decode cL_law 945 = .ok (.iaload, 1) := by decide +kernel
theorem dL_law_946 : decode cL_law 946 = .ok (.invokevirtual 117, 3) := by decide +kernel
theorem dL_law_949 : decode cL_law 949 = .ok (.if_icmp .eq 584, 3) := by decide +kernel
theorem dL_law_952 : decode cL_law 952 = .ok (.iconst 0, 1) := by decide +kernel
theorem dL_law_953 : decode cL_law 953 = .ok (.ireturn, 1) := by decide +kernel
theorem dL_law_954 : decode cL_law 954 = .ok (.aload_n 1, 1) := by decide +kernel
theorem dL_law_955 : decode cL_law 955 = .ok (.aload_n 0, 1) := by decide +kernel
theorem dL_law_956 : decode cL_law 956 = .ok (.iload_n 3, 1) := by decide +kernel
theorem dL_law_957 : decode cL_law 957 = .ok (.iconst 1, 1) := by decide +kernel
theorem dL_law_958 : decode cL_law 958 = .ok (.iadd, 1) := by decide +kernel
theorem dL_law_959 : decode cL_law 959 = .ok (.iaload, 1) := by decide +kernel
theorem dL_law_960 : decode cL_law 960 = .ok (.invokevirtual 118, 3) := by decide +kernel
theorem dL_law_963 : decode cL_law 963 = .ok (.aload_n 2, 1) := by decide +kernel
theorem dL_law_964 : decode cL_law 964 = .ok (.aload_n 0, 1) := by decide +kernel
theorem dL_law_965 : decode cL_law 965 = .ok (.iload_n 3, 1) := by decide +kernel
theorem dL_law_966 : decode cL_law 966 = .ok (.iconst 1, 1) := by decide +kernel
theorem dL_law_967 : decode cL_law 967 = .ok (.iadd, 1) := by decide +kernel
theorem dL_law_968 : decode cL_law 968 = .ok (.iaload, 1) := by decide +kernel
theorem dL_law_969 : decode cL_law 969 = .ok (.invokevirtual 121, 3) := by decide +kernel
theorem dL_law_972 : decode cL_law 972 = .ok (.if_icmp .eq 561, 3) := by decide +kernel
theorem dL_law_975 : decode cL_law 975 = .ok (.iconst 0, 1) := by decide +kernel
theorem dL_law_976 : decode cL_law 976 = .ok (.ireturn, 1) := by decide +kernel
theorem dL_law_977 : decode cL_law 977 = .ok (.aload_n 1, 1) := by decide +kernel
theorem dL_law_978 : decode cL_law 978 = .ok (.aload_n 0, 1) := by decide +kernel
theorem dL_law_979 : decode cL_law 979 = .ok (.iload_n 3, 1) := by decide +kernel
theorem dL_law_980 : decode cL_law 980 = .ok (.iconst 1, 1) := by decide +kernel
theorem dL_law_981 : decode cL_law 981 = .ok (.iadd, 1) := by decide +kernel
theorem dL_law_982 : decode cL_law 982 = .ok (.iaload, 1) := by decide +kernel
theorem dL_law_983 : decode cL_law 983 = .ok (.aload_n 0, 1) := by decide +kernel
theorem dL_law_984 : decode cL_law 984 = .ok (.iload_n 3, 1) := by decide +kernel
theorem dL_law_985 : decode cL_law 985 = .ok (.iconst 2, 1) := by decide +kernel
theorem dL_law_986 : decode cL_law 986 = .ok (.iadd, 1) := by decide +kernel
theorem dL_law_987 : decode cL_law 987 = .ok (.iaload, 1) := by decide +kernel
theorem dL_law_988 : decode cL_law 988 = .ok (.invokevirtual 122, 3) := by decide +kernel
theorem dL_law_991 : decode cL_law 991 = .ok (.aload_n 2, 1) := by decide +kernel
theorem dL_law_992 : decode cL_law 992 = .ok (.aload_n 0, 1) := by decide +kernel
theorem dL_law_993 : decode cL_law 993 = .ok (.iload_n 3, 1) := by decide +kernel
theorem dL_law_994 : decode cL_law 994 = .ok (.iconst 1, 1) := by decide +kernel
theorem dL_law_995 : decode cL_law 995 = .ok (.iadd, 1) := by decide +kernel
theorem dL_law_996 : decode cL_law 996 = .ok (.iaload, 1) := by decide +kernel
theorem dL_law_997 : decode cL_law 997 = .ok (.aload_n 0, 1) := by decide +kernel
theorem dL_law_998 : decode cL_law 998 = .ok (.iload_n 3, 1) := by decide +kernel
theorem dL_law_999 : decode cL_law 999 = .ok (.iconst 2, 1) := by decide +kernel
theorem dL_law_1000 : decode cL_law 1000 = .ok (.iadd, 1) := by decide +kernel
theorem dL_law_1001 : decode cL_law 1001 = .ok (.iaload, 1) := by decide +kernel
theorem dL_law_1002 : decode cL_law 1002 = .ok (.invokevirtual 125, 3) := by decide +kernel
theorem dL_law_1005 : decode cL_law 1005 = .ok (.if_icmp .eq 528, 3) := by decide +kernel
theorem dL_law_1008 : decode cL_law 1008 = .ok (.iconst 0, 1) := by decide +kernel
theorem dL_law_1009 : decode cL_law 1009 = .ok (.ireturn, 1) := by decide +kernel
theorem dL_law_1010 : decode cL_law 1010 = .ok (.aload_n 1, 1) := by decide +kernel
theorem dL_law_1011 : decode cL_law 1011 = .ok (.aload_n 0, 1) := by decide +kernel
theorem dL_law_1012 : decode cL_law 1012 = .ok (.iload_n 3, 1) := by decide +kernel
theorem dL_law_1013 : decode cL_law 1013 = .ok (.iconst 1, 1) := by decide +kernel
theorem dL_law_1014 : decode cL_law 1014 = .ok (.iadd, 1) := by decide +kernel
theorem dL_law_1015 : decode cL_law 1015 = .ok (.iaload, 1) := by decide +kernel
theorem dL_law_1016 : decode cL_law 1016 = .ok (.invokevirtual 126, 3) := by decide +kernel
theorem dL_law_1019 : decode cL_law 1019 = .ok (.aload_n 2, 1) := by decide +kernel
theorem dL_law_1020 : decode cL_law 1020 = .ok (.aload_n 0, 1) := by decide +kernel
theorem dL_law_1021 : decode cL_law 1021 = .ok (.iload_n 3, 1) := by decide +kernel
theorem dL_law_1022 : decode cL_law 1022 = .ok (.iconst 1, 1) := by decide +kernel
theorem dL_law_1023 : decode cL_law 1023 = .ok (.iadd, 1) := by decide +kernel
theorem dL_law_1024 : decode cL_law 1024 = .ok (.iaload, 1) := by decide +kernel
theorem dL_law_1025 : decode cL_law 1025 = .ok (.invokevirtual 129, 3) := by decide +kernel
theorem dL_law_1028 : decode cL_law 1028 = .ok (.if_icmp .eq 505, 3) := by decide +kernel
theorem dL_law_1031 : decode cL_law 1031 = .ok (.iconst 0, 1) := by decide +kernel
theorem dL_law_1032 : decode cL_law 1032 = .ok (.ireturn, 1) := by decide +kernel
theorem dL_law_1033 : decode cL_law 1033 = .ok (.aload_n 1, 1) := by decide +kernel
theorem dL_law_1034 : decode cL_law 1034 = .ok (.aload_n 0, 1) := by decide +kernel
theorem dL_law_1035 : decode cL_law 1035 = .ok (.iload_n 3, 1) := by decide +kernel
theorem dL_law_1036 : decode cL_law 1036 = .ok (.iconst 1, 1) := by decide +kernel
theorem dL_law_1037 : decode cL_law 1037 = .ok (.iadd, 1) := by decide +kernel
theorem dL_law_1038 : decode cL_law 1038 = .ok (.iaload, 1) := by decide +kernel
theorem dL_law_1039 : decode cL_law 1039 = .ok (.invokevirtual 130, 3) := by decide +kernel
theorem dL_law_1042 : decode cL_law 1042 = .ok (.aload_n 2, 1) := by decide +kernel
theorem dL_law_1043 : decode cL_law 1043 = .ok (.aload_n 0, 1) := by decide +kernel
theorem dL_law_1044 : decode cL_law 1044 = .ok (.iload_n 3, 1) := by decide +kernel
theorem dL_law_1045 : decode cL_law 1045 = .ok (.iconst 1, 1) := by decide +kernel
theorem dL_law_1046 : decode cL_law 1046 = .ok (.iadd, 1) := by decide +kernel
theorem dL_law_1047 : decode cL_law 1047 = .ok (.iaload, 1) := by decide +kernel
theorem dL_law_1048 : decode cL_law 1048 = .ok (.invokevirtual 133, 3) := by decide +kernel
theorem dL_law_1051 : decode cL_law 1051 = .ok (.if_icmp .eq 482, 3) := by decide +kernel
theorem dL_law_1054 : decode cL_law 1054 = .ok (.iconst 0, 1) := by decide +kernel
theorem dL_law_1055 : decode cL_law 1055 = .ok (.ireturn, 1) := by decide +kernel
theorem dL_law_1056 : decode cL_law 1056 = .ok (.aload_n 1, 1) := by decide +kernel
theorem dL_law_1057 : decode cL_law 1057 = .ok (.aload_n 0, 1) := by decide +kernel
theorem dL_law_1058 : decode cL_law 1058 = .ok (.iload_n 3, 1) := by decide +kernel
theorem dL_law_1059 : decode cL_law 1059 = .ok (.iconst 1, 1) := by decide +kernel
theorem dL_law_1060 : decode cL_law 1060 = .ok (.iadd, 1) := by decide +kernel
theorem dL_law_1061 : decode cL_law 1061 = .ok (.iaload, 1) := by decide +kernel
theorem dL_law_1062 : decode cL_law 1062 = .ok (.invokevirtual 134, 3) := by decide +kernel
theorem dL_law_1065 : decode cL_law 1065 = .ok (.aload_n 2, 1) := by decide +kernel
theorem dL_law_1066 : decode cL_law 1066 = .ok (.aload_n 0, 1) := by decide +kernel
theorem dL_law_1067 : decode cL_law 1067 = .ok (.iload_n 3, 1) := by decide +kernel
theorem dL_law_1068 : decode cL_law 1068 = .ok (.iconst 1, 1) := by decide +kernel
theorem dL_law_1069 : decode cL_law 1069 = .ok (.iadd, 1) := by decide +kernel
theorem dL_law_1070 : decode cL_law 1070 = .ok (.iaload, 1) := by decide +kernel
theorem dL_law_1071 : decode cL_law 1071 = .ok (.invokevirtual 137, 3) := by decide +kernel
theorem dL_law_1074 : decode cL_law 1074 = .ok (.if_icmp .eq 459, 3) := by decide +kernel
theorem dL_law_1077 : decode cL_law 1077 = .ok (.iconst 0, 1) := by decide +kernel
theorem dL_law_1078 : decode cL_law 1078 = .ok (.ireturn, 1) := by decide +kernel
theorem dL_law_1079 : decode cL_law 1079 = .ok (.aload_n 1, 1) := by decide +kernel
theorem dL_law_1080 : decode cL_law 1080 = .ok (.aload_n 0, 1) := by decide +kernel
theorem dL_law_1081 : decode cL_law 1081 = .ok (.iload_n 3, 1) := by decide +kernel
theorem dL_law_1082 : decode cL_law 1082 = .ok (.iconst 1, 1) := by decide +kernel
theorem dL_law_1083 : decode cL_law 1083 = .ok (.iadd, 1) := by decide +kernel
theorem dL_law_1084 : decode cL_law 1084 = .ok (.iaload, 1) := by decide +kernel
theorem dL_law_1085 : decode cL_law 1085 = .ok (.invokevirtual 138, 3) := by decide +kernel
theorem dL_law_1088 : decode cL_law 1088 = .ok (.aload_n 2, 1) := by decide +kernel
theorem dL_law_1089 : decode cL_law 1089 = .ok (.aload_n 0, 1) := by decide +kernel
theorem dL_law_1090 : decode cL_law 1090 = .ok (.iload_n 3, 1) := by decide +kernel
theorem dL_law_1091 : decode cL_law 1091 = .ok (.iconst 1, 1) := by decide +kernel
theorem dL_law_1092 : decode cL_law 1092 = .ok (.iadd, 1) := by decide +kernel
theorem dL_law_1093 : decode cL_law 1093 = .ok (.iaload, 1) := by decide +kernel
theorem dL_law_1094 : decode cL_law 1094 = .ok (.invokevirtual 141, 3) := by decide +kernel
theorem dL_law_1097 : decode cL_law 1097 = .ok (.if_icmp .eq 436, 3) := by decide +kernel
theorem dL_law_1100 : decode cL_law 1100 = .ok (.iconst 0, 1) := by decide +kernel
theorem dL_law_1101 : decode cL_law 1101 = .ok (.ireturn, 1) := by decide +kernel
theorem dL_law_1102 : decode cL_law 1102 = .ok (.aload_n 1, 1) := by decide +kernel
theorem dL_law_1103 : decode cL_law 1103 = .ok (.aload_n 0, 1) := by decide +kernel
theorem dL_law_1104 : decode cL_law 1104 = .ok (.iload_n 3, 1) := by decide +kernel
theorem dL_law_1105 : decode cL_law 1105 = .ok (.iconst 1, 1) := by decide +kernel
theorem dL_law_1106 : decode cL_law 1106 = .ok (.iadd, 1) := by decide +kernel
theorem dL_law_1107 : decode cL_law 1107 = .ok (.iaload, 1) := by decide +kernel
theorem dL_law_1108 : decode cL_law 1108 = .ok (.invokevirtual 142, 3) := by decide +kernel
theorem dL_law_1111 : decode cL_law 1111 = .ok (.aload_n 2, 1) := by decide +kernel
theorem dL_law_1112 : decode cL_law 1112 = .ok (.aload_n 0, 1) := by decide +kernel
theorem dL_law_1113 : decode cL_law 1113 = .ok (.iload_n 3, 1) := by decide +kernel
theorem dL_law_1114 : decode cL_law 1114 = .ok (.iconst 1, 1) := by decide +kernel
theorem dL_law_1115 : decode cL_law 1115 = .ok (.iadd, 1) := by decide +kernel
theorem dL_law_1116 : decode cL_law 1116 = .ok (.iaload, 1) := by decide +kernel
theorem dL_law_1117 : decode cL_law 1117 = .ok (.invokevirtual 145, 3) := by decide +kernel
theorem dL_law_1120 : decode cL_law 1120 = .ok (.if_icmp .eq 413, 3) := by decide +kernel
theorem dL_law_1123 : decode cL_law 1123 = .ok (.iconst 0, 1) := by decide +kernel
theorem dL_law_1124 : decode cL_law 1124 = .ok (.ireturn, 1) := by decide +kernel
theorem dL_law_1125 : decode cL_law 1125 = .ok (.aload_n 1, 1) := by decide +kernel
theorem dL_law_1126 : decode cL_law 1126 = .ok (.aload_n 0, 1) := by decide +kernel
theorem dL_law_1127 : decode cL_law 1127 = .ok (.iload_n 3, 1) := by decide +kernel
theorem dL_law_1128 : decode cL_law 1128 = .ok (.iconst 1, 1) := by decide +kernel
theorem dL_law_1129 : decode cL_law 1129 = .ok (.iadd, 1) := by decide +kernel
theorem dL_law_1130 : decode cL_law 1130 = .ok (.iaload, 1) := by decide +kernel
theorem dL_law_1131 : decode cL_law 1131 = .ok (.aload_n 0, 1) := by decide +kernel
theorem dL_law_1132 : decode cL_law 1132 = .ok (.iload_n 3, 1) := by decide +kernel
theorem dL_law_1133 : decode cL_law 1133 = .ok (.iconst 2, 1) := by decide +kernel
theorem dL_law_1134 : decode cL_law 1134 = .ok (.iadd, 1) := by decide +kernel
theorem dL_law_1135 : decode cL_law 1135 = .ok (.iaload, 1) := by decide +kernel
theorem dL_law_1136 : decode cL_law 1136 = .ok (.aload_n 0, 1) := by decide +kernel
theorem dL_law_1137 : decode cL_law 1137 = .ok (.iload_n 3, 1) := by decide +kernel
theorem dL_law_1138 : decode cL_law 1138 = .ok (.iconst 3, 1) := by decide +kernel
theorem dL_law_1139 : decode cL_law 1139 = .ok (.iadd, 1) := by decide +kernel
theorem dL_law_1140 : decode cL_law 1140 = .ok (.iaload, 1) := by decide +kernel
theorem dL_law_1141 : decode cL_law 1141 = .ok (.invokevirtual 146, 3) := by decide +kernel
theorem dL_law_1144 : decode cL_law 1144 = .ok (.aload_n 2, 1) := by decide +kernel
theorem dL_law_1145 : decode cL_law 1145 = .ok (.aload_n 0, 1) := by decide +kernel
theorem dL_law_1146 : decode cL_law 1146 = .ok (.iload_n 3, 1) := by decide +kernel
theorem dL_law_1147 : decode cL_law 1147 = .ok (.iconst 1, 1) := by decide +kernel
theorem dL_law_1148 : decode cL_law 1148 = .ok (.iadd, 1) := by decide +kernel
theorem dL_law_1149 : decode cL_law 1149 = .ok (.iaload, 1) := by decide +kernel
theorem dL_law_1150 : decode cL_law 1150 = .ok (.aload_n 0, 1) := by decide +kernel
theorem dL_law_1151 : decode cL_law 1151 = .ok (.iload_n 3, 1) := by decide +kernel
theorem dL_law_1152 : decode cL_law 1152 = .ok (.iconst 2, 1) := by decide +kernel
theorem dL_law_1153 : decode cL_law 1153 = .ok (.iadd, 1) := by decide +kernel
theorem dL_law_1154 : decode cL_law 1154 = .ok (.iaload, 1) := by decide +kernel
theorem dL_law_1155 : decode cL_law 1155 = .ok (.aload_n 0, 1) := by decide +kernel
theorem dL_law_1156 : decode cL_law 1156 = .ok (.iload_n 3, 1) := by decide +kernel
theorem dL_law_1157 : decode cL_law 1157 = .ok (.iconst 3, 1) := by decide +kernel
theorem dL_law_1158 : decode cL_law 1158 = .ok (.iadd, 1) := by decide +kernel
theorem dL_law_1159 : decode cL_law 1159 = .ok (.iaload, 1) := by decide +kernel
theorem dL_law_1160 : decode cL_law 1160 = .ok (.invokevirtual 150, 3) := by decide +kernel
theorem dL_law_1163 : decode cL_law 1163 = .ok (.if_icmp .eq 370, 3) := by decide +kernel
theorem dL_law_1166 : decode cL_law 1166 = .ok (.iconst 0, 1) := by decide +kernel
theorem dL_law_1167 : decode cL_law 1167 = .ok (.ireturn, 1) := by decide +kernel
theorem dL_law_1168 : decode cL_law 1168 = .ok (.aload_n 1, 1) := by decide +kernel
theorem dL_law_1169 : decode cL_law 1169 = .ok (.invokevirtual 151, 3) := by decide +kernel
theorem dL_law_1172 : decode cL_law 1172 = .ok (.aload_n 2, 1) := by decide +kernel
theorem dL_law_1173 : decode cL_law 1173 = .ok (.invokevirtual 154, 3) := by decide +kernel
theorem dL_law_1176 : decode cL_law 1176 = .ok (.if_icmp .eq 357, 3) := by decide +kernel
theorem dL_law_1179 : decode cL_law 1179 = .ok (.iconst 0, 1) := by decide +kernel
theorem dL_law_1180 : decode cL_law 1180 = .ok (.ireturn, 1) := by decide +kernel
theorem dL_law_1181 : decode cL_law 1181 = .ok (.aload_n 1, 1) := by decide +kernel
theorem dL_law_1182 : decode cL_law 1182 = .ok (.aload_n 0, 1) := by decide +kernel
theorem dL_law_1183 : decode cL_law 1183 = .ok (.iload_n 3, 1) := by decide +kernel
theorem dL_law_1184 : decode cL_law 1184 = .ok (.iconst 1, 1) := by decide +kernel
theorem dL_law_1185 : decode cL_law 1185 = .ok (.iadd, 1) := by decide +kernel
theorem dL_law_1186 : decode cL_law 1186 = .ok (.iaload, 1) := by decide +kernel
theorem dL_law_1187 : decode cL_law 1187 = .ok (.invokevirtual 155, 3) := by decide +kernel
theorem dL_law_1190 : decode cL_law 1190 = .ok (.aload_n 2, 1) := by decide +kernel
theorem dL_law_1191 : decode cL_law 1191 = .ok (.aload_n 0, 1) := by decide +kernel
theorem dL_law_1192 : decode cL_law 1192 = .ok (.iload_n 3, 1) := by decide +kernel
theorem dL_law_1193 : decode cL_law 1193 = .ok (.iconst 1, 1) := by decide +kernel
theorem dL_law_1194 : decode cL_law 1194 = .ok (.iadd, 1) := by decide +kernel
theorem dL_law_1195 : decode cL_law 1195 = .ok (.iaload, 1) := by decide +kernel
theorem dL_law_1196 : decode cL_law 1196 = .ok (.invokevirtual 158, 3) := by decide +kernel
theorem dL_law_1199 : decode cL_law 1199 = .ok (.if_icmp .eq 334, 3) := by decide +kernel
theorem dL_law_1202 : decode cL_law 1202 = .ok (.iconst 0, 1) := by decide +kernel
theorem dL_law_1203 : decode cL_law 1203 = .ok (.ireturn, 1) := by decide +kernel
theorem dL_law_1204 : decode cL_law 1204 = .ok (.aload_n 1, 1) := by decide +kernel
theorem dL_law_1205 : decode cL_law 1205 = .ok (.aload_n 0, 1) := by decide +kernel
theorem dL_law_1206 : decode cL_law 1206 = .ok (.iload_n 3, 1) := by decide +kernel
theorem dL_law_1207 : decode cL_law 1207 = .ok (.iconst 1, 1) := by decide +kernel
theorem dL_law_1208 : decode cL_law 1208 = .ok (.iadd, 1) := by decide +kernel
theorem dL_law_1209 : decode cL_law 1209 = .ok (.iaload, 1) := by decide +kernel
theorem dL_law_1210 : decode cL_law 1210 = .ok (.invokevirtual 159, 3) := by decide +kernel
theorem dL_law_1213 : decode cL_law 1213 = .ok (.aload_n 2, 1) := by decide +kernel
theorem dL_law_1214 : decode cL_law 1214 = .ok (.aload_n 0, 1) := by decide +kernel
theorem dL_law_1215 : decode cL_law 1215 = .ok (.iload_n 3, 1) := by decide +kernel
theorem dL_law_1216 : decode cL_law 1216 = .ok (.iconst 1, 1) := by decide +kernel
theorem dL_law_1217 : decode cL_law 1217 = .ok (.iadd, 1) := by decide +kernel
theorem dL_law_1218 : decode cL_law 1218 = .ok (.iaload, 1) := by decide +kernel
theorem dL_law_1219 : decode cL_law 1219 = .ok (.invokevirtual 162, 3) := by decide +kernel
theorem dL_law_1222 : decode cL_law 1222 = .ok (.if_icmp .eq 311, 3) := by decide +kernel
theorem dL_law_1225 : decode cL_law 1225 = .ok (.iconst 0, 1) := by decide +kernel
theorem dL_law_1226 : decode cL_law 1226 = .ok (.ireturn, 1) := by decide +kernel
theorem dL_law_1227 : decode cL_law 1227 = .ok (.aload_n 1, 1) := by decide +kernel
theorem dL_law_1228 : decode cL_law 1228 = .ok (.aload_n 0, 1) := by decide +kernel
theorem dL_law_1229 : decode cL_law 1229 = .ok (.iload_n 3, 1) := by decide +kernel
theorem dL_law_1230 : decode cL_law 1230 = .ok (.iconst 1, 1) := by decide +kernel
theorem dL_law_1231 : decode cL_law 1231 = .ok (.iadd, 1) := by decide +kernel
theorem dL_law_1232 : decode cL_law 1232 = .ok (.iaload, 1) := by decide +kernel
theorem dL_law_1233 : decode cL_law 1233 = .ok (.aload_n 0, 1) := by decide +kernel
theorem dL_law_1234 : decode cL_law 1234 = .ok (.iload_n 3, 1) := by decide +kernel
theorem dL_law_1235 : decode cL_law 1235 = .ok (.iconst 2, 1) := by decide +kernel
theorem dL_law_1236 : decode cL_law 1236 = .ok (.iadd, 1) := by decide +kernel
theorem dL_law_1237 : decode cL_law 1237 = .ok (.iaload, 1) := by decide +kernel
theorem dL_law_1238 : decode cL_law 1238 = .ok (.aload_n 0, 1) := by decide +kernel
theorem dL_law_1239 : decode cL_law 1239 = .ok (.iload_n 3, 1) := by decide +kernel
theorem dL_law_1240 : decode cL_law 1240 = .ok (.iconst 3, 1) := by decide +kernel
theorem dL_law_1241 : decode cL_law 1241 = .ok (.iadd, 1) := by decide +kernel
theorem dL_law_1242 : decode cL_law 1242 = .ok (.iaload, 1) := by decide +kernel
theorem dL_law_1243 : decode cL_law 1243 = .ok (.invokevirtual 163, 3) := by decide +kernel
theorem dL_law_1246 : decode cL_law 1246 = .ok (.aload_n 2, 1) := by decide +kernel
theorem dL_law_1247 : decode cL_law 1247 = .ok (.aload_n 0, 1) := by decide +kernel
theorem dL_law_1248 : decode cL_law 1248 = .ok (.iload_n 3, 1) := by decide +kernel
theorem dL_law_1249 : decode cL_law 1249 = .ok (.iconst 1, 1) := by decide +kernel
theorem dL_law_1250 : decode cL_law 1250 = .ok (.iadd, 1) := by decide +kernel
theorem dL_law_1251 : decode cL_law 1251 = .ok (.iaload, 1) := by decide +kernel
theorem dL_law_1252 : decode cL_law 1252 = .ok (.aload_n 0, 1) := by decide +kernel
theorem dL_law_1253 : decode cL_law 1253 = .ok (.iload_n 3, 1) := by decide +kernel
theorem dL_law_1254 : decode cL_law 1254 = .ok (.iconst 2, 1) := by decide +kernel
theorem dL_law_1255 : decode cL_law 1255 = .ok (.iadd, 1) := by decide +kernel
theorem dL_law_1256 : decode cL_law 1256 = .ok (.iaload, 1) := by decide +kernel
theorem dL_law_1257 : decode cL_law 1257 = .ok (.aload_n 0, 1) := by decide +kernel
theorem dL_law_1258 : decode cL_law 1258 = .ok (.iload_n 3, 1) := by decide +kernel
theorem dL_law_1259 : decode cL_law 1259 = .ok (.iconst 3, 1) := by decide +kernel
theorem dL_law_1260 : decode cL_law 1260 = .ok (.iadd, 1) := by decide +kernel
theorem dL_law_1261 : decode cL_law 1261 = .ok (.iaload, 1) := by decide +kernel
theorem dL_law_1262 : decode cL_law 1262 = .ok (.invokevirtual 166, 3) := by decide +kernel
theorem dL_law_1265 : decode cL_law 1265 = .ok (.if_icmp .eq 268, 3) := by decide +kernel
theorem dL_law_1268 : decode cL_law 1268 = .ok (.iconst 0, 1) := by decide +kernel
theorem dL_law_1269 : decode cL_law 1269 = .ok (.ireturn, 1) := by decide +kernel
theorem dL_law_1270 : decode cL_law 1270 = .ok (.aload_n 1, 1) := by decide +kernel
theorem dL_law_1271 : decode cL_law 1271 = .ok (.aload_n 0, 1) := by decide +kernel
theorem dL_law_1272 : decode cL_law 1272 = .ok (.iload_n 3, 1) := by decide +kernel
theorem dL_law_1273 : decode cL_law 1273 = .ok (.iconst 1, 1) := by decide +kernel
theorem dL_law_1274 : decode cL_law 1274 = .ok (.iadd, 1) := by decide +kernel
theorem dL_law_1275 : decode cL_law 1275 = .ok (.iaload, 1) := by decide +kernel
theorem dL_law_1276 : decode cL_law 1276 = .ok (.aload_n 0, 1) := by decide +kernel
theorem dL_law_1277 : decode cL_law 1277 = .ok (.iload_n 3, 1) := by decide +kernel
theorem dL_law_1278 : decode cL_law 1278 = .ok (.iconst 2, 1) := by decide +kernel
theorem dL_law_1279 : decode cL_law 1279 = .ok (.iadd, 1) := by decide +kernel
theorem dL_law_1280 : decode cL_law 1280 = .ok (.iaload, 1) := by decide +kernel
theorem dL_law_1281 : decode cL_law 1281 = .ok (.invokevirtual 167, 3) := by decide +kernel
theorem dL_law_1284 : decode cL_law 1284 = .ok (.aload_n 2, 1) := by decide +kernel
theorem dL_law_1285 : decode cL_law 1285 = .ok (.aload_n 0, 1) := by decide +kernel
theorem dL_law_1286 : decode cL_law 1286 = .ok (.iload_n 3, 1) := by decide +kernel
theorem dL_law_1287 : decode cL_law 1287 = .ok (.iconst 1, 1) := by decide +kernel
theorem dL_law_1288 : decode cL_law 1288 = .ok (.iadd, 1) := by decide +kernel
theorem dL_law_1289 : decode cL_law 1289 = .ok (.iaload, 1) := by decide +kernel
theorem dL_law_1290 : decode cL_law 1290 = .ok (.aload_n 0, 1) := by decide +kernel
theorem dL_law_1291 : decode cL_law 1291 = .ok (.iload_n 3, 1) := by decide +kernel
theorem dL_law_1292 : decode cL_law 1292 = .ok (.iconst 2, 1) := by decide +kernel
theorem dL_law_1293 : decode cL_law 1293 = .ok (.iadd, 1) := by decide +kernel
theorem dL_law_1294 : decode cL_law 1294 = .ok (.iaload, 1) := by decide +kernel
theorem dL_law_1295 : decode cL_law 1295 = .ok (.invokevirtual 170, 3) := by decide +kernel
theorem dL_law_1298 : decode cL_law 1298 = .ok (.if_icmp .eq 235, 3) := by decide +kernel
theorem dL_law_1301 : decode cL_law 1301 = .ok (.iconst 0, 1) := by decide +kernel
theorem dL_law_1302 : decode cL_law 1302 = .ok (.ireturn, 1) := by decide +kernel
theorem dL_law_1303 : decode cL_law 1303 = .ok (.aload_n 1, 1) := by decide +kernel
theorem dL_law_1304 : decode cL_law 1304 = .ok (.aload_n 0, 1) := by decide +kernel
theorem dL_law_1305 : decode cL_law 1305 = .ok (.iload_n 3, 1) := by decide +kernel
theorem dL_law_1306 : decode cL_law 1306 = .ok (.iconst 1, 1) := by decide +kernel
theorem dL_law_1307 : decode cL_law 1307 = .ok (.iadd, 1) := by decide +kernel
theorem dL_law_1308 : decode cL_law 1308 = .ok (.iaload, 1) := by decide +kernel
theorem dL_law_1309 : decode cL_law 1309 = .ok (.aload_n 0, 1) := by decide +kernel
theorem dL_law_1310 : decode cL_law 1310 = .ok (.iload_n 3, 1) := by decide +kernel
theorem dL_law_1311 : decode cL_law 1311 = .ok (.iconst 2, 1) := by decide +kernel
theorem dL_law_1312 : decode cL_law 1312 = .ok (.iadd, 1) := by decide +kernel
theorem dL_law_1313 : decode cL_law 1313 = .ok (.iaload, 1) := by decide +kernel
theorem dL_law_1314 : decode cL_law 1314 = .ok (.invokevirtual 171, 3) := by decide +kernel
theorem dL_law_1317 : decode cL_law 1317 = .ok (.aload_n 2, 1) := by decide +kernel
theorem dL_law_1318 : decode cL_law 1318 = .ok (.aload_n 0, 1) := by decide +kernel
theorem dL_law_1319 : decode cL_law 1319 = .ok (.iload_n 3, 1) := by decide +kernel
theorem dL_law_1320 : decode cL_law 1320 = .ok (.iconst 1, 1) := by decide +kernel
theorem dL_law_1321 : decode cL_law 1321 = .ok (.iadd, 1) := by decide +kernel
theorem dL_law_1322 : decode cL_law 1322 = .ok (.iaload, 1) := by decide +kernel
theorem dL_law_1323 : decode cL_law 1323 = .ok (.aload_n 0, 1) := by decide +kernel
theorem dL_law_1324 : decode cL_law 1324 = .ok (.iload_n 3, 1) := by decide +kernel
theorem dL_law_1325 : decode cL_law 1325 = .ok (.iconst 2, 1) := by decide +kernel
theorem dL_law_1326 : decode cL_law 1326 = .ok (.iadd, 1) := by decide +kernel
theorem dL_law_1327 : decode cL_law 1327 = .ok (.iaload, 1) := by decide +kernel
theorem dL_law_1328 : decode cL_law 1328 = .ok (.invokevirtual 174, 3) := by decide +kernel
theorem dL_law_1331 : decode cL_law 1331 = .ok (.if_icmp .eq 202, 3) := by decide +kernel
theorem dL_law_1334 : decode cL_law 1334 = .ok (.iconst 0, 1) := by decide +kernel
theorem dL_law_1335 : decode cL_law 1335 = .ok (.ireturn, 1) := by decide +kernel
theorem dL_law_1336 : decode cL_law 1336 = .ok (.aload_n 1, 1) := by decide +kernel
theorem dL_law_1337 : decode cL_law 1337 = .ok (.aload_n 0, 1) := by decide +kernel
theorem dL_law_1338 : decode cL_law 1338 = .ok (.iload_n 3, 1) := by decide +kernel
theorem dL_law_1339 : decode cL_law 1339 = .ok (.iconst 1, 1) := by decide +kernel
theorem dL_law_1340 : decode cL_law 1340 = .ok (.iadd, 1) := by decide +kernel
theorem dL_law_1341 : decode cL_law 1341 = .ok (.iaload, 1) := by decide +kernel
theorem dL_law_1342 : decode cL_law 1342 = .ok (.invokevirtual 175, 3) := by decide +kernel
theorem dL_law_1345 : decode cL_law 1345 = .ok (.aload_n 2, 1) := by decide +kernel
theorem dL_law_1346 : decode cL_law 1346 = .ok (.aload_n 0, 1) := by decide +kernel
theorem dL_law_1347 : decode cL_law 1347 = .ok (.iload_n 3, 1) := by decide +kernel
theorem dL_law_1348 : decode cL_law 1348 = .ok (.iconst 1, 1) := by decide +kernel
theorem dL_law_1349 : decode cL_law 1349 = .ok (.iadd, 1) := by decide +kernel
theorem dL_law_1350 : decode cL_law 1350 = .ok (.iaload, 1) := by decide +kernel
theorem dL_law_1351 : decode cL_law 1351 = .ok (.invokevirtual 178, 3) := by decide +kernel
theorem dL_law_1354 : decode cL_law 1354 = .ok (.if_icmp .eq 179, 3) := by decide +kernel
theorem dL_law_1357 : decode cL_law 1357 = .ok (.iconst 0, 1) := by decide +kernel
theorem dL_law_1358 : decode cL_law 1358 = .ok (.ireturn, 1) := by decide +kernel
theorem dL_law_1359 : decode cL_law 1359 = .ok (.aload_n 1, 1) := by decide +kernel
theorem dL_law_1360 : decode cL_law 1360 = .ok (.aload_n 0, 1) := by decide +kernel
theorem dL_law_1361 : decode cL_law 1361 = .ok (.iload_n 3, 1) := by decide +kernel
theorem dL_law_1362 : decode cL_law 1362 = .ok (.iconst 1, 1) := by decide +kernel
theorem dL_law_1363 : decode cL_law 1363 = .ok (.iadd, 1) := by decide +kernel
theorem dL_law_1364 : decode cL_law 1364 = .ok (.iaload, 1) := by decide +kernel
theorem dL_law_1365 : decode cL_law 1365 = .ok (.invokevirtual 179, 3) := by decide +kernel
theorem dL_law_1368 : decode cL_law 1368 = .ok (.aload_n 2, 1) := by decide +kernel
theorem dL_law_1369 : decode cL_law 1369 = .ok (.aload_n 0, 1) := by decide +kernel
theorem dL_law_1370 : decode cL_law 1370 = .ok (.iload_n 3, 1) := by decide +kernel
theorem dL_law_1371 : decode cL_law 1371 = .ok (.iconst 1, 1) := by decide +kernel
theorem dL_law_1372 : decode cL_law 1372 = .ok (.iadd, 1) := by decide +kernel
theorem dL_law_1373 : decode cL_law 1373 = .ok (.iaload, 1) := by decide +kernel
theorem dL_law_1374 : decode cL_law 1374 = .ok (.invokevirtual 182, 3) := by decide +kernel
theorem dL_law_1377 : decode cL_law 1377 = .ok (.if_icmp .eq 156, 3) := by decide +kernel
theorem dL_law_1380 : decode cL_law 1380 = .ok (.iconst 0, 1) := by decide +kernel
theorem dL_law_1381 : decode cL_law 1381 = .ok (.ireturn, 1) := by decide +kernel
theorem dL_law_1382 : decode cL_law 1382 = .ok (.aload_n 1, 1) := by decide +kernel
theorem dL_law_1383 : decode cL_law 1383 = .ok (.aload_n 0, 1) := by decide +kernel
theorem dL_law_1384 : decode cL_law 1384 = .ok (.iload_n 3, 1) := by decide +kernel
theorem dL_law_1385 : decode cL_law 1385 = .ok (.iconst 1, 1) := by decide +kernel
theorem dL_law_1386 : decode cL_law 1386 = .ok (.iadd, 1) := by decide +kernel
theorem dL_law_1387 : decode cL_law 1387 = .ok (.iaload, 1) := by decide +kernel
theorem dL_law_1388 : decode cL_law 1388 = .ok (.aload_n 0, 1) := by decide +kernel
theorem dL_law_1389 : decode cL_law 1389 = .ok (.iload_n 3, 1) := by decide +kernel
theorem dL_law_1390 : decode cL_law 1390 = .ok (.iconst 2, 1) := by decide +kernel
theorem dL_law_1391 : decode cL_law 1391 = .ok (.iadd, 1) := by decide +kernel
theorem dL_law_1392 : decode cL_law 1392 = .ok (.iaload, 1) := by decide +kernel
theorem dL_law_1393 : decode cL_law 1393 = .ok (.invokevirtual 183, 3) := by decide +kernel
theorem dL_law_1396 : decode cL_law 1396 = .ok (.aload_n 2, 1) := by decide +kernel
theorem dL_law_1397 : decode cL_law 1397 = .ok (.aload_n 0, 1) := by decide +kernel
theorem dL_law_1398 : decode cL_law 1398 = .ok (.iload_n 3, 1) := by decide +kernel
theorem dL_law_1399 : decode cL_law 1399 = .ok (.iconst 1, 1) := by decide +kernel
theorem dL_law_1400 : decode cL_law 1400 = .ok (.iadd, 1) := by decide +kernel
theorem dL_law_1401 : decode cL_law 1401 = .ok (.iaload, 1) := by decide +kernel
theorem dL_law_1402 : decode cL_law 1402 = .ok (.aload_n 0, 1) := by decide +kernel
theorem dL_law_1403 : decode cL_law 1403 = .ok (.iload_n 3, 1) := by decide +kernel
theorem dL_law_1404 : decode cL_law 1404 = .ok (.iconst 2, 1) := by decide +kernel
theorem dL_law_1405 : decode cL_law 1405 = .ok (.iadd, 1) := by decide +kernel
theorem dL_law_1406 : decode cL_law 1406 = .ok (.iaload, 1) := by decide +kernel
theorem dL_law_1407 : decode cL_law 1407 = .ok (.invokevirtual 186, 3) := by decide +kernel
theorem dL_law_1410 : decode cL_law 1410 = .ok (.if_icmp .eq 123, 3) := by decide +kernel
theorem dL_law_1413 : decode cL_law 1413 = .ok (.iconst 0, 1) := by decide +kernel
theorem dL_law_1414 : decode cL_law 1414 = .ok (.ireturn, 1) := by decide +kernel
theorem dL_law_1415 : decode cL_law 1415 = .ok (.aload_n 1, 1) := by decide +kernel
theorem dL_law_1416 : decode cL_law 1416 = .ok (.invokevirtual 187, 3) := by decide +kernel
theorem dL_law_1419 : decode cL_law 1419 = .ok (.aload_n 2, 1) := by decide +kernel
theorem dL_law_1420 : decode cL_law 1420 = .ok (.invokevirtual 190, 3) := by decide +kernel
theorem dL_law_1423 : decode cL_law 1423 = .ok (.if_icmp .eq 110, 3) := by decide +kernel
theorem dL_law_1426 : decode cL_law 1426 = .ok (.iconst 0, 1) := by decide +kernel
theorem dL_law_1427 : decode cL_law 1427 = .ok (.ireturn, 1) := by decide +kernel
theorem dL_law_1428 : decode cL_law 1428 = .ok (.aload_n 1, 1) := by decide +kernel
theorem dL_law_1429 : decode cL_law 1429 = .ok (.aload_n 0, 1) := by decide +kernel
theorem dL_law_1430 : decode cL_law 1430 = .ok (.iload_n 3, 1) := by decide +kernel
theorem dL_law_1431 : decode cL_law 1431 = .ok (.iconst 1, 1) := by decide +kernel
theorem dL_law_1432 : decode cL_law 1432 = .ok (.iadd, 1) := by decide +kernel
theorem dL_law_1433 : decode cL_law 1433 = .ok (.iaload, 1) := by decide +kernel
theorem dL_law_1434 : decode cL_law 1434 = .ok (.invokevirtual 191, 3) := by decide +kernel
theorem dL_law_1437 : decode cL_law 1437 = .ok (.aload_n 2, 1) := by decide +kernel
theorem dL_law_1438 : decode cL_law 1438 = .ok (.aload_n 0, 1) := by decide +kernel
theorem dL_law_1439 : decode cL_law 1439 = .ok (.iload_n 3, 1) := by decide +kernel
theorem dL_law_1440 : decode cL_law 1440 = .ok (.iconst 1, 1) := by decide +kernel
theorem dL_law_1441 : decode cL_law 1441 = .ok (.iadd, 1) := by decide +kernel
theorem dL_law_1442 : decode cL_law 1442 = .ok (.iaload, 1) := by decide +kernel
theorem dL_law_1443 : decode cL_law 1443 = .ok (.invokevirtual 194, 3) := by decide +kernel
theorem dL_law_1446 : decode cL_law 1446 = .ok (.if_icmp .eq 87, 3) := by decide +kernel
theorem dL_law_1449 : decode cL_law 1449 = .ok (.iconst 0, 1) := by decide +kernel
theorem dL_law_1450 : decode cL_law 1450 = .ok (.ireturn, 1) := by decide +kernel
theorem dL_law_1451 : decode cL_law 1451 = .ok (.aload_n 1, 1) := by decide +kernel
theorem dL_law_1452 : decode cL_law 1452 = .ok (.aload_n 0, 1) := by decide +kernel
theorem dL_law_1453 : decode cL_law 1453 = .ok (.iload_n 3, 1) := by decide +kernel
theorem dL_law_1454 : decode cL_law 1454 = .ok (.iconst 1, 1) := by decide +kernel
theorem dL_law_1455 : decode cL_law 1455 = .ok (.iadd, 1) := by decide +kernel
theorem dL_law_1456 : decode cL_law 1456 = .ok (.iaload, 1) := by decide +kernel
theorem dL_law_1457 : decode cL_law 1457 = .ok (.invokevirtual 195, 3) := by decide +kernel
theorem dL_law_1460 : decode cL_law 1460 = .ok (.aload_n 2, 1) := by decide +kernel
theorem dL_law_1461 : decode cL_law 1461 = .ok (.aload_n 0, 1) := by decide +kernel
theorem dL_law_1462 : decode cL_law 1462 = .ok (.iload_n 3, 1) := by decide +kernel
theorem dL_law_1463 : decode cL_law 1463 = .ok (.iconst 1, 1) := by decide +kernel
theorem dL_law_1464 : decode cL_law 1464 = .ok (.iadd, 1) := by decide +kernel
theorem dL_law_1465 : decode cL_law 1465 = .ok (.iaload, 1) := by decide +kernel
theorem dL_law_1466 : decode cL_law 1466 = .ok (.invokevirtual 198, 3) := by decide +kernel
theorem dL_law_1469 : decode cL_law 1469 = .ok (.if_icmp .eq 64, 3) := by decide +kernel
theorem dL_law_1472 : decode cL_law 1472 = .ok (.iconst 0, 1) := by decide +kernel
theorem dL_law_1473 : decode cL_law 1473 = .ok (.ireturn, 1) := by decide +kernel
theorem dL_law_1474 : decode cL_law 1474 = .ok (.aload_n 1, 1) := by decide +kernel
theorem dL_law_1475 : decode cL_law 1475 = .ok (.aload_n 0, 1) := by decide +kernel
theorem dL_law_1476 : decode cL_law 1476 = .ok (.iload_n 3, 1) := by decide +kernel
theorem dL_law_1477 : decode cL_law 1477 = .ok (.iconst 1, 1) := by decide +kernel
theorem dL_law_1478 : decode cL_law 1478 = .ok (.iadd, 1) := by decide +kernel
theorem dL_law_1479 : decode cL_law 1479 = .ok (.iaload, 1) := by decide +kernel
theorem dL_law_1480 : decode cL_law 1480 = .ok (.aload_n 0, 1) := by decide +kernel
theorem dL_law_1481 : decode cL_law 1481 = .ok (.iload_n 3, 1) := by decide +kernel
theorem dL_law_1482 : decode cL_law 1482 = .ok (.iconst 2, 1) := by decide +kernel
theorem dL_law_1483 : decode cL_law 1483 = .ok (.iadd, 1) := by decide +kernel
theorem dL_law_1484 : decode cL_law 1484 = .ok (.iaload, 1) := by decide +kernel
theorem dL_law_1485 : decode cL_law 1485 = .ok (.invokevirtual 199, 3) := by decide +kernel
theorem dL_law_1488 : decode cL_law 1488 = .ok (.aload_n 2, 1) := by decide +kernel
theorem dL_law_1489 : decode cL_law 1489 = .ok (.aload_n 0, 1) := by decide +kernel
theorem dL_law_1490 : decode cL_law 1490 = .ok (.iload_n 3, 1) := by decide +kernel
theorem dL_law_1491 : decode cL_law 1491 = .ok (.iconst 1, 1) := by decide +kernel
theorem dL_law_1492 : decode cL_law 1492 = .ok (.iadd, 1) := by decide +kernel
theorem dL_law_1493 : decode cL_law 1493 = .ok (.iaload, 1) := by decide +kernel
theorem dL_law_1494 : decode cL_law 1494 = .ok (.aload_n 0, 1) := by decide +kernel
theorem dL_law_1495 : decode cL_law 1495 = .ok (.iload_n 3, 1) := by decide +kernel
theorem dL_law_1496 : decode cL_law 1496 = .ok (.iconst 2, 1) := by decide +kernel
theorem dL_law_1497 : decode cL_law 1497 = .ok (.iadd, 1) := by decide +kernel
theorem dL_law_1498 : decode cL_law 1498 = .ok (.iaload, 1) := by decide +kernel
theorem dL_law_1499 : decode cL_law 1499 = .ok (.invokevirtual 202, 3) := by decide +kernel
theorem dL_law_1502 : decode cL_law 1502 = .ok (.if_icmp .eq 31, 3) := by decide +kernel
theorem dL_law_1505 : decode cL_law 1505 = .ok (.iconst 0, 1) := by decide +kernel
theorem dL_law_1506 : decode cL_law 1506 = .ok (.ireturn, 1) := by decide +kernel
theorem dL_law_1507 : decode cL_law 1507 = .ok (.aload_n 1, 1) := by decide +kernel
theorem dL_law_1508 : decode cL_law 1508 = .ok (.invokevirtual 203, 3) := by decide +kernel
theorem dL_law_1511 : decode cL_law 1511 = .ok (.aload_n 2, 1) := by decide +kernel
theorem dL_law_1512 : decode cL_law 1512 = .ok (.invokevirtual 206, 3) := by decide +kernel
theorem dL_law_1515 : decode cL_law 1515 = .ok (.if_icmp .eq 18, 3) := by decide +kernel
theorem dL_law_1518 : decode cL_law 1518 = .ok (.iconst 0, 1) := by decide +kernel
theorem dL_law_1519 : decode cL_law 1519 = .ok (.ireturn, 1) := by decide +kernel
theorem dL_law_1520 : decode cL_law 1520 = .ok (.aload_n 1, 1) := by decide +kernel
theorem dL_law_1521 : decode cL_law 1521 = .ok (.invokevirtual 207, 3) := by decide +kernel
theorem dL_law_1524 : decode cL_law 1524 = .ok (.aload_n 2, 1) := by decide +kernel
theorem dL_law_1525 : decode cL_law 1525 = .ok (.invokevirtual 210, 3) := by decide +kernel
theorem dL_law_1528 : decode cL_law 1528 = .ok (.if_icmp .eq 5, 3) := by decide +kernel
theorem dL_law_1531 : decode cL_law 1531 = .ok (.iconst 0, 1) := by decide +kernel
theorem dL_law_1532 : decode cL_law 1532 = .ok (.ireturn, 1) := by decide +kernel
theorem dL_law_1533 : decode cL_law 1533 = .ok (.iinc 3 6, 3) := by decide +kernel
theorem dL_law_1536 : decode cL_law 1536 = .ok (.goto (-1518), 3) := by decide +kernel
theorem dL_law_1539 : decode cL_law 1539 = .ok (.iconst 1, 1) := by decide +kernel
theorem dL_law_1540 : decode cL_law 1540 = .ok (.ireturn, 1) := by decide +kernel
