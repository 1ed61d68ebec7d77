theorem jw_ls {x : jX} {tb : jT} {mi : jMI} {d : Nat} {Q : jM → Option Value → Prop} {pc : Nat} {ls ls' : List (Nat × Value)} {st : List Value} {M : jM} (h : ls = ls') (k : JW x tb mi d Q pc ls' st M) : JW x tb mi d Q pc ls st M := h ▸ k
theorem jw_st {x : jX} {tb : jT} {mi : jMI} {d : Nat} {Q : jM → Option Value → Prop} {pc : Nat} {ls : List (Nat × Value)} {st st' : List Value} {M : jM} (h : st = st') (k : JW x tb mi d Q pc ls st' M) : JW x tb mi d Q pc ls st M := h ▸ k
theorem jb_ne {b : Bool} (h : ¬ jb b = 0) : b = true := by cases b with
  | false => exact absurd rfl h
  | true => rfl
theorem jne_i {v k : Int32} {n : Int} (h : ¬ v = k) (e : k.toInt = n) : v.toInt ≠ n := fun z => h (Int32.toInt_inj.mp (z.trans e.symm))
theorem jcmp_eq (a b : Int64) : lg_cmp a b = 0 ↔ a = b := by
  unfold lg_cmp
  by_cases h1 : a > b
  · rw [if_pos h1]; constructor
    · intro h; exact absurd h (by decide)
    · rintro rfl; exact absurd h1 (by simp)
  · rw [if_neg h1]
    by_cases h2 : a = b
    · rw [if_pos h2]; exact ⟨fun _ => h2, fun _ => rfl⟩
    · rw [if_neg h2]; exact ⟨fun h => absurd h (by decide), fun h => absurd h h2⟩
theorem jcmp_gt (a b : Int64) : 0 < lg_cmp a b ↔ b < a := by
  unfold lg_cmp
  by_cases h1 : a > b
  · rw [if_pos h1]; exact ⟨fun _ => h1, fun _ => by decide⟩
  · rw [if_neg h1]
    by_cases h2 : a = b
    · rw [if_pos h2]; exact ⟨fun h => absurd h (by decide), fun h => absurd h h1⟩
    · rw [if_neg h2]; exact ⟨fun h => absurd h (by decide), fun h => absurd h h1⟩
theorem jcmp_ge (a b : Int64) : 0 ≤ lg_cmp a b ↔ b ≤ a := lg_cmp_ge a b
theorem jcmp_lt (a b : Int64) : lg_cmp a b < 0 ↔ a < b := by
  rw [← Int32.not_le, ← Int64.not_le, jcmp_ge]
theorem jcmp_le (a b : Int64) : lg_cmp a b ≤ 0 ↔ a ≤ b := by
  have h := jcmp_gt a b
  rw [← Int32.not_lt, ← Int64.not_lt, h]
theorem jcw {n d : Nat} (h : n ≤ 50) : n ≤ 50 * (d + 1) := by omega
def aX3 (tb : jT) (p : Nat) : Prop := js tb p = (3, 10) ∧ js tb (p + 1) = (20, 60) ∧ js tb (p + 2) = (20, 60) ∧ js tb (p + 3) = (20, 60) ∧ js tb (p + 4) = (20, 60) ∧ js tb (p + 5) = (20, 60) ∧ js tb (p + 6) = (20, 60) ∧ js tb (p + 7) = (20, 60)
def aX5 (tb : jT) (p : Nat) : Prop := js tb p = (5, 13) ∧ js tb (p + 1) = (20, 25) ∧ js tb (p + 2) = (20, 25) ∧ js tb (p + 3) = (20, 25) ∧ js tb (p + 4) = (23, 6) ∧ js tb (p + 5) = (20, 6) ∧ js tb (p + 6) = (20, 54) ∧ js tb (p + 7) = (20, 200) ∧ js tb (p + 8) = (20, 9)
def aX7 (tb : jT) (p : Nat) : Prop := js tb p = (7, 14) ∧ js tb (p + 1) = (23, 26) ∧ js tb (p + 2) = (21, 0)
def aX9 (tb : jT) (p : Nat) : Prop := js tb p = (9, 4) ∧ js tb (p + 1) = (23, 60)
def aX10 (tb : jT) (p : Nat) : Prop := js tb p = (10, 3) ∧ js tb (p + 1) = (5, 13) ∧ js tb (p + 2) = (20, 25) ∧ js tb (p + 3) = (20, 25) ∧ js tb (p + 4) = (20, 25) ∧ js tb (p + 5) = (23, 6) ∧ js tb (p + 6) = (20, 6) ∧ js tb (p + 7) = (20, 54) ∧ js tb (p + 8) = (20, 200) ∧ js tb (p + 9) = (20, 9) ∧ js tb (p + 10) = (20, 25) ∧ js tb (p + 11) = (3, 10) ∧ js tb (p + 12) = (20, 60) ∧ js tb (p + 13) = (20, 60) ∧ js tb (p + 14) = (20, 60) ∧ js tb (p + 15) = (20, 60) ∧ js tb (p + 16) = (20, 60) ∧ js tb (p + 17) = (20, 60) ∧ js tb (p + 18) = (20, 60)
theorem aX10_5_1 {tb : jT} {p : Nat} (h : aX10 tb p) : aX5 tb (p + 1) := ⟨h.2.1, h.2.2.1, h.2.2.2.1, h.2.2.2.2.1, h.2.2.2.2.2.1, h.2.2.2.2.2.2.1, h.2.2.2.2.2.2.2.1, h.2.2.2.2.2.2.2.2.1, h.2.2.2.2.2.2.2.2.2.1⟩
theorem aX10_3_11 {tb : jT} {p : Nat} (h : aX10 tb p) : aX3 tb (p + 11) := ⟨h.2.2.2.2.2.2.2.2.2.2.2.1, h.2.2.2.2.2.2.2.2.2.2.2.2.1, h.2.2.2.2.2.2.2.2.2.2.2.2.2.1, h.2.2.2.2.2.2.2.2.2.2.2.2.2.2.1, h.2.2.2.2.2.2.2.2.2.2.2.2.2.2.2.1, h.2.2.2.2.2.2.2.2.2.2.2.2.2.2.2.2.1, h.2.2.2.2.2.2.2.2.2.2.2.2.2.2.2.2.2.1, h.2.2.2.2.2.2.2.2.2.2.2.2.2.2.2.2.2.2⟩
def jtbC : jT := [(0, 11, 17), (1, 24, 4), (2, 21, 900), (3, 6, 5), (4, 5, 13), (5, 20, 25), (6, 20, 25), (7, 20, 25), (8, 23, 6), (9, 20, 6), (10, 20, 54), (11, 20, 200), (12, 20, 9), (13, 7, 14), (14, 23, 26), (15, 21, 0), (16, 4, 4), (17, 3, 10), (18, 20, 60), (19, 20, 60), (20, 20, 60), (21, 20, 60), (22, 20, 60), (23, 20, 60), (24, 20, 60), (25, 7, 14), (26, 23, 26), (27, 21, 0), (28, 20, 3), (29, 10, 3), (30, 5, 13), (31, 20, 25), (32, 20, 25), (33, 20, 25), (34, 23, 6), (35, 20, 6), (36, 20, 54), (37, 20, 200), (38, 20, 9), (39, 20, 25), (40, 3, 10), (41, 20, 60), (42, 20, 60), (43, 20, 60), (44, 20, 60), (45, 20, 60), (46, 20, 60), (47, 20, 60), (48, 25, 3), (49, 8, 7), (50, 20, 25), (51, 20, 3), (52, 20, 54), (53, 20, 9), (54, 23, 25), (55, 1, 10), (56, 20, 54), (57, 20, 54), (58, 23, 4), (59, 20, 54), (60, 20, 25), (61, 23, 2048), (62, 0, 8), (63, 20, 25), (64, 20, 25), (65, 20, 12), (66, 20, 9), (67, 20, 9), (68, 20, 6), (69, 20, 25), (70, 2, 6), (71, 20, 60), (72, 20, 54), (73, 20, 25), (74, 20, 3), (75, 23, 2), (76, 20, 2), (77, 9, 4), (78, 23, 60), (79, 9, 4), (80, 23, 60), (81, 9, 4), (82, 23, 60), (83, 9, 4), (84, 23, 60), (85, 10, 3), (86, 5, 13), (87, 20, 25), (88, 20, 25), (89, 20, 25), (90, 23, 6), (91, 20, 6), (92, 20, 54), (93, 20, 200), (94, 20, 9), (95, 20, 25), (96, 3, 10), (97, 20, 60), (98, 20, 60), (99, 20, 60), (100, 20, 60), (101, 20, 60), (102, 20, 60), (103, 20, 60), (104, 10, 3), (105, 5, 13), (106, 20, 25), (107, 20, 25), (108, 20, 25), (109, 23, 6), (110, 20, 6), (111, 20, 54), (112, 20, 200), (113, 20, 9), (114, 20, 25), (115, 3, 10), (116, 20, 60), (117, 20, 60), (118, 20, 60), (119, 20, 60), (120, 20, 60), (121, 20, 60), (122, 20, 60), (123, 10, 3), (124, 5, 13), (125, 20, 25), (126, 20, 25), (127, 20, 25), (128, 23, 6), (129, 20, 6), (130, 20, 54), (131, 20, 200), (132, 20, 9), (133, 20, 25), (134, 3, 10), (135, 20, 60), (136, 20, 60), (137, 20, 60), (138, 20, 60), (139, 20, 60), (140, 20, 60), (141, 20, 60)]
theorem sC_0 : js jtbC 0 = (11, 17) := by decide +kernel
theorem sC_1 : js jtbC 1 = (24, 4) := by decide +kernel
theorem sC_2 : js jtbC 2 = (21, 900) := by decide +kernel
theorem sC_3 : js jtbC 3 = (6, 5) := by decide +kernel
theorem sC_4 : js jtbC 4 = (5, 13) := by decide +kernel
theorem sC_5 : js jtbC 5 = (20, 25) := by decide +kernel
theorem sC_6 : js jtbC 6 = (20, 25) := by decide +kernel
theorem sC_7 : js jtbC 7 = (20, 25) := by decide +kernel
theorem sC_8 : js jtbC 8 = (23, 6) := by decide +kernel
theorem sC_9 : js jtbC 9 = (20, 6) := by decide +kernel
theorem sC_10 : js jtbC 10 = (20, 54) := by decide +kernel
theorem sC_11 : js jtbC 11 = (20, 200) := by decide +kernel
theorem sC_12 : js jtbC 12 = (20, 9) := by decide +kernel
theorem sC_13 : js jtbC 13 = (7, 14) := by decide +kernel
theorem sC_14 : js jtbC 14 = (23, 26) := by decide +kernel
theorem sC_15 : js jtbC 15 = (21, 0) := by decide +kernel
theorem sC_16 : js jtbC 16 = (4, 4) := by decide +kernel
theorem sC_17 : js jtbC 17 = (3, 10) := by decide +kernel
theorem sC_18 : js jtbC 18 = (20, 60) := by decide +kernel
theorem sC_19 : js jtbC 19 = (20, 60) := by decide +kernel
theorem sC_20 : js jtbC 20 = (20, 60) := by decide +kernel
theorem sC_21 : js jtbC 21 = (20, 60) := by decide +kernel
theorem sC_22 : js jtbC 22 = (20, 60) := by decide +kernel
theorem sC_23 : js jtbC 23 = (20, 60) := by decide +kernel
theorem sC_24 : js jtbC 24 = (20, 60) := by decide +kernel
theorem sC_25 : js jtbC 25 = (7, 14) := by decide +kernel
theorem sC_26 : js jtbC 26 = (23, 26) := by decide +kernel
theorem sC_27 : js jtbC 27 = (21, 0) := by decide +kernel
theorem sC_28 : js jtbC 28 = (20, 3) := by decide +kernel
theorem sC_29 : js jtbC 29 = (10, 3) := by decide +kernel
theorem sC_30 : js jtbC 30 = (5, 13) := by decide +kernel
theorem sC_31 : js jtbC 31 = (20, 25) := by decide +kernel
theorem sC_32 : js jtbC 32 = (20, 25) := by decide +kernel
theorem sC_33 : js jtbC 33 = (20, 25) := by decide +kernel
theorem sC_34 : js jtbC 34 = (23, 6) := by decide +kernel
theorem sC_35 : js jtbC 35 = (20, 6) := by decide +kernel
theorem sC_36 : js jtbC 36 = (20, 54) := by decide +kernel
theorem sC_37 : js jtbC 37 = (20, 200) := by decide +kernel
theorem sC_38 : js jtbC 38 = (20, 9) := by decide +kernel
theorem sC_39 : js jtbC 39 = (20, 25) := by decide +kernel
theorem sC_40 : js jtbC 40 = (3, 10) := by decide +kernel
theorem sC_41 : js jtbC 41 = (20, 60) := by decide +kernel
theorem sC_42 : js jtbC 42 = (20, 60) := by decide +kernel
theorem sC_43 : js jtbC 43 = (20, 60) := by decide +kernel
theorem sC_44 : js jtbC 44 = (20, 60) := by decide +kernel
theorem sC_45 : js jtbC 45 = (20, 60) := by decide +kernel
theorem sC_46 : js jtbC 46 = (20, 60) := by decide +kernel
theorem sC_47 : js jtbC 47 = (20, 60) := by decide +kernel
theorem sC_48 : js jtbC 48 = (25, 3) := by decide +kernel
theorem sC_49 : js jtbC 49 = (8, 7) := by decide +kernel
theorem sC_50 : js jtbC 50 = (20, 25) := by decide +kernel
theorem sC_51 : js jtbC 51 = (20, 3) := by decide +kernel
theorem sC_52 : js jtbC 52 = (20, 54) := by decide +kernel
theorem sC_53 : js jtbC 53 = (20, 9) := by decide +kernel
theorem sC_54 : js jtbC 54 = (23, 25) := by decide +kernel
theorem sC_55 : js jtbC 55 = (1, 10) := by decide +kernel
theorem sC_56 : js jtbC 56 = (20, 54) := by decide +kernel
theorem sC_57 : js jtbC 57 = (20, 54) := by decide +kernel
theorem sC_58 : js jtbC 58 = (23, 4) := by decide +kernel
theorem sC_59 : js jtbC 59 = (20, 54) := by decide +kernel
theorem sC_60 : js jtbC 60 = (20, 25) := by decide +kernel
theorem sC_61 : js jtbC 61 = (23, 2048) := by decide +kernel
theorem sC_62 : js jtbC 62 = (0, 8) := by decide +kernel
theorem sC_63 : js jtbC 63 = (20, 25) := by decide +kernel
theorem sC_64 : js jtbC 64 = (20, 25) := by decide +kernel
theorem sC_65 : js jtbC 65 = (20, 12) := by decide +kernel
theorem sC_66 : js jtbC 66 = (20, 9) := by decide +kernel
theorem sC_67 : js jtbC 67 = (20, 9) := by decide +kernel
theorem sC_68 : js jtbC 68 = (20, 6) := by decide +kernel
theorem sC_69 : js jtbC 69 = (20, 25) := by decide +kernel
theorem sC_70 : js jtbC 70 = (2, 6) := by decide +kernel
theorem sC_71 : js jtbC 71 = (20, 60) := by decide +kernel
theorem sC_72 : js jtbC 72 = (20, 54) := by decide +kernel
theorem sC_73 : js jtbC 73 = (20, 25) := by decide +kernel
theorem sC_74 : js jtbC 74 = (20, 3) := by decide +kernel
theorem sC_75 : js jtbC 75 = (23, 2) := by decide +kernel
theorem sC_76 : js jtbC 76 = (20, 2) := by decide +kernel
theorem sC_77 : js jtbC 77 = (9, 4) := by decide +kernel
theorem sC_78 : js jtbC 78 = (23, 60) := by decide +kernel
theorem sC_79 : js jtbC 79 = (9, 4) := by decide +kernel
theorem sC_80 : js jtbC 80 = (23, 60) := by decide +kernel
theorem sC_81 : js jtbC 81 = (9, 4) := by decide +kernel
theorem sC_82 : js jtbC 82 = (23, 60) := by decide +kernel
theorem sC_83 : js jtbC 83 = (9, 4) := by decide +kernel
theorem sC_84 : js jtbC 84 = (23, 60) := by decide +kernel
theorem sC_85 : js jtbC 85 = (10, 3) := by decide +kernel
theorem sC_86 : js jtbC 86 = (5, 13) := by decide +kernel
theorem sC_87 : js jtbC 87 = (20, 25) := by decide +kernel
theorem sC_88 : js jtbC 88 = (20, 25) := by decide +kernel
theorem sC_89 : js jtbC 89 = (20, 25) := by decide +kernel
theorem sC_90 : js jtbC 90 = (23, 6) := by decide +kernel
theorem sC_91 : js jtbC 91 = (20, 6) := by decide +kernel
theorem sC_92 : js jtbC 92 = (20, 54) := by decide +kernel
theorem sC_93 : js jtbC 93 = (20, 200) := by decide +kernel
theorem sC_94 : js jtbC 94 = (20, 9) := by decide +kernel
theorem sC_95 : js jtbC 95 = (20, 25) := by decide +kernel
theorem sC_96 : js jtbC 96 = (3, 10) := by decide +kernel
theorem sC_97 : js jtbC 97 = (20, 60) := by decide +kernel
theorem sC_98 : js jtbC 98 = (20, 60) := by decide +kernel
theorem sC_99 : js jtbC 99 = (20, 60) := by decide +kernel
theorem sC_100 : js jtbC 100 = (20, 60) := by decide +kernel
theorem sC_101 : js jtbC 101 = (20, 60) := by decide +kernel
theorem sC_102 : js jtbC 102 = (20, 60) := by decide +kernel
theorem sC_103 : js jtbC 103 = (20, 60) := by decide +kernel
theorem sC_104 : js jtbC 104 = (10, 3) := by decide +kernel
theorem sC_105 : js jtbC 105 = (5, 13) := by decide +kernel
theorem sC_106 : js jtbC 106 = (20, 25) := by decide +kernel
theorem sC_107 : js jtbC 107 = (20, 25) := by decide +kernel
theorem sC_108 : js jtbC 108 = (20, 25) := by decide +kernel
theorem sC_109 : js jtbC 109 = (23, 6) := by decide +kernel
theorem sC_110 : js jtbC 110 = (20, 6) := by decide +kernel
theorem sC_111 : js jtbC 111 = (20, 54) := by decide +kernel
theorem sC_112 : js jtbC 112 = (20, 200) := by decide +kernel
theorem sC_113 : js jtbC 113 = (20, 9) := by decide +kernel
theorem sC_114 : js jtbC 114 = (20, 25) := by decide +kernel
theorem sC_115 : js jtbC 115 = (3, 10) := by decide +kernel
theorem sC_116 : js jtbC 116 = (20, 60) := by decide +kernel
theorem sC_117 : js jtbC 117 = (20, 60) := by decide +kernel
theorem sC_118 : js jtbC 118 = (20, 60) := by decide +kernel
theorem sC_119 : js jtbC 119 = (20, 60) := by decide +kernel
theorem sC_120 : js jtbC 120 = (20, 60) := by decide +kernel
theorem sC_121 : js jtbC 121 = (20, 60) := by decide +kernel
theorem sC_122 : js jtbC 122 = (20, 60) := by decide +kernel
theorem sC_123 : js jtbC 123 = (10, 3) := by decide +kernel
theorem sC_124 : js jtbC 124 = (5, 13) := by decide +kernel
theorem sC_125 : js jtbC 125 = (20, 25) := by decide +kernel
theorem sC_126 : js jtbC 126 = (20, 25) := by decide +kernel
theorem sC_127 : js jtbC 127 = (20, 25) := by decide +kernel
theorem sC_128 : js jtbC 128 = (23, 6) := by decide +kernel
theorem sC_129 : js jtbC 129 = (20, 6) := by decide +kernel
theorem sC_130 : js jtbC 130 = (20, 54) := by decide +kernel
theorem sC_131 : js jtbC 131 = (20, 200) := by decide +kernel
theorem sC_132 : js jtbC 132 = (20, 9) := by decide +kernel
theorem sC_133 : js jtbC 133 = (20, 25) := by decide +kernel
theorem sC_134 : js jtbC 134 = (3, 10) := by decide +kernel
theorem sC_135 : js jtbC 135 = (20, 60) := by decide +kernel
theorem sC_136 : js jtbC 136 = (20, 60) := by decide +kernel
theorem sC_137 : js jtbC 137 = (20, 60) := by decide +kernel
theorem sC_138 : js jtbC 138 = (20, 60) := by decide +kernel
theorem sC_139 : js jtbC 139 = (20, 60) := by decide +kernel
theorem sC_140 : js jtbC 140 = (20, 60) := by decide +kernel
theorem sC_141 : js jtbC 141 = (20, 60) := by decide +kernel
def jtbM : jT := [(0, 12, 54), (1, 20, 4), (2, 20, 4), (3, 23, 240), (4, 21, 900), (5, 20, 2060), (6, 23, 30), (7, 22, 6), (8, 20, 54), (9, 20, 25), (10, 20, 25), (11, 20, 54), (12, 20, 12), (13, 20, 12), (14, 20, 25), (15, 22, 4096), (16, 20, 3), (17, 20, 25), (18, 20, 16), (19, 20, 16)]
theorem sM_0 : js jtbM 0 = (12, 54) := by decide +kernel
theorem sM_1 : js jtbM 1 = (20, 4) := by decide +kernel
theorem sM_2 : js jtbM 2 = (20, 4) := by decide +kernel
theorem sM_3 : js jtbM 3 = (23, 240) := by decide +kernel
theorem sM_4 : js jtbM 4 = (21, 900) := by decide +kernel
theorem sM_5 : js jtbM 5 = (20, 2060) := by decide +kernel
theorem sM_6 : js jtbM 6 = (23, 30) := by decide +kernel
theorem sM_7 : js jtbM 7 = (22, 6) := by decide +kernel
theorem sM_8 : js jtbM 8 = (20, 54) := by decide +kernel
theorem sM_9 : js jtbM 9 = (20, 25) := by decide +kernel
theorem sM_10 : js jtbM 10 = (20, 25) := by decide +kernel
theorem sM_11 : js jtbM 11 = (20, 54) := by decide +kernel
theorem sM_12 : js jtbM 12 = (20, 12) := by decide +kernel
theorem sM_13 : js jtbM 13 = (20, 12) := by decide +kernel
theorem sM_14 : js jtbM 14 = (20, 25) := by decide +kernel
theorem sM_15 : js jtbM 15 = (22, 4096) := by decide +kernel
theorem sM_16 : js jtbM 16 = (20, 3) := by decide +kernel
theorem sM_17 : js jtbM 17 = (20, 25) := by decide +kernel
theorem sM_18 : js jtbM 18 = (20, 16) := by decide +kernel
theorem sM_19 : js jtbM 19 = (20, 16) := by decide +kernel
theorem atC5_4 : aX5 jtbC 4 := ⟨sC_4, sC_5, sC_6, sC_7, sC_8, sC_9, sC_10, sC_11, sC_12⟩
theorem atC7_13 : aX7 jtbC 13 := ⟨sC_13, sC_14, sC_15⟩
theorem atC3_17 : aX3 jtbC 17 := ⟨sC_17, sC_18, sC_19, sC_20, sC_21, sC_22, sC_23, sC_24⟩
theorem atC7_25 : aX7 jtbC 25 := ⟨sC_25, sC_26, sC_27⟩
theorem atC10_29 : aX10 jtbC 29 := ⟨sC_29, sC_30, sC_31, sC_32, sC_33, sC_34, sC_35, sC_36, sC_37, sC_38, sC_39, sC_40, sC_41, sC_42, sC_43, sC_44, sC_45, sC_46, sC_47⟩
theorem atC5_30 : aX5 jtbC 30 := ⟨sC_30, sC_31, sC_32, sC_33, sC_34, sC_35, sC_36, sC_37, sC_38⟩
theorem atC3_40 : aX3 jtbC 40 := ⟨sC_40, sC_41, sC_42, sC_43, sC_44, sC_45, sC_46, sC_47⟩
theorem atC9_77 : aX9 jtbC 77 := ⟨sC_77, sC_78⟩
theorem atC9_79 : aX9 jtbC 79 := ⟨sC_79, sC_80⟩
theorem atC9_81 : aX9 jtbC 81 := ⟨sC_81, sC_82⟩
theorem atC9_83 : aX9 jtbC 83 := ⟨sC_83, sC_84⟩
theorem atC10_85 : aX10 jtbC 85 := ⟨sC_85, sC_86, sC_87, sC_88, sC_89, sC_90, sC_91, sC_92, sC_93, sC_94, sC_95, sC_96, sC_97, sC_98, sC_99, sC_100, sC_101, sC_102, sC_103⟩
theorem atC5_86 : aX5 jtbC 86 := ⟨sC_86, sC_87, sC_88, sC_89, sC_90, sC_91, sC_92, sC_93, sC_94⟩
theorem atC3_96 : aX3 jtbC 96 := ⟨sC_96, sC_97, sC_98, sC_99, sC_100, sC_101, sC_102, sC_103⟩
theorem atC10_104 : aX10 jtbC 104 := ⟨sC_104, sC_105, sC_106, sC_107, sC_108, sC_109, sC_110, sC_111, sC_112, sC_113, sC_114, sC_115, sC_116, sC_117, sC_118, sC_119, sC_120, sC_121, sC_122⟩
theorem atC5_105 : aX5 jtbC 105 := ⟨sC_105, sC_106, sC_107, sC_108, sC_109, sC_110, sC_111, sC_112, sC_113⟩
theorem atC3_115 : aX3 jtbC 115 := ⟨sC_115, sC_116, sC_117, sC_118, sC_119, sC_120, sC_121, sC_122⟩
theorem atC10_123 : aX10 jtbC 123 := ⟨sC_123, sC_124, sC_125, sC_126, sC_127, sC_128, sC_129, sC_130, sC_131, sC_132, sC_133, sC_134, sC_135, sC_136, sC_137, sC_138, sC_139, sC_140, sC_141⟩
theorem atC5_124 : aX5 jtbC 124 := ⟨sC_124, sC_125, sC_126, sC_127, sC_128, sC_129, sC_130, sC_131, sC_132⟩
theorem atC3_134 : aX3 jtbC 134 := ⟨sC_134, sC_135, sC_136, sC_137, sC_138, sC_139, sC_140, sC_141⟩
theorem at9 {j : Nat} (h : j < 4) : aX9 jtbC (77 + 2 * j) := by
  match j, h with
  | 0, _ => exact atC9_77
  | 1, _ => exact atC9_79
  | 2, _ => exact atC9_81
  | 3, _ => exact atC9_83
theorem at10 {j : Nat} (h : j < 3) : aX10 jtbC (85 + 19 * j) := by
  match j, h with
  | 0, _ => exact atC10_85
  | 1, _ => exact atC10_104
  | 2, _ => exact atC10_123
