theorem dX8_init_0 : decode cX8_init 0 = .ok (.aload_n 0, 1) := by decide +kernel
theorem dX8_init_1 : decode cX8_init 1 = .ok (.invokespecial 1, 3) := by decide +kernel
theorem dX8_init_4 : decode cX8_init 4 = .ok (.aload_n 0, 1) := by decide +kernel
theorem dX8_init_5 : decode cX8_init 5 = .ok (.bipush 10, 2) := by decide +kernel
theorem dX8_init_7 : decode cX8_init 7 = .ok (.newarray .int, 2) := by decide +kernel
theorem dX8_init_9 : decode cX8_init 9 = .ok (.putfield 7, 3) := by decide +kernel
theorem dX8_init_12 : decode cX8_init 12 = .ok (.aload_n 0, 1) := by decide +kernel
theorem dX8_init_13 : decode cX8_init 13 = .ok (.bipush 10, 2) := by decide +kernel
theorem dX8_init_15 : decode cX8_init 15 = .ok (.newarray .int, 2) := by decide +kernel
theorem dX8_init_17 : decode cX8_init 17 = .ok (.putfield 13, 3) := by decide +kernel
theorem dX8_init_20 : decode cX8_init 20 = .ok (.aload_n 0, 1) := by decide +kernel
theorem dX8_init_21 : decode cX8_init 21 = .ok (.bipush 10, 2) := by decide +kernel
theorem dX8_init_23 : decode cX8_init 23 = .ok (.newarray .int, 2) := by decide +kernel
theorem dX8_init_25 : decode cX8_init 25 = .ok (.putfield 16, 3) := by decide +kernel
theorem dX8_init_28 : decode cX8_init 28 = .ok (.aload_n 0, 1) := by decide +kernel
theorem dX8_init_29 : decode cX8_init 29 = .ok (.bipush 10, 2) := by decide +kernel
theorem dX8_init_31 : decode cX8_init 31 = .ok (.newarray .int, 2) := by decide +kernel
theorem dX8_init_33 : decode cX8_init 33 = .ok (.putfield 19, 3) := by decide +kernel
theorem dX8_init_36 : decode cX8_init 36 = .ok (.aload_n 0, 1) := by decide +kernel
theorem dX8_init_37 : decode cX8_init 37 = .ok (.bipush 12, 2) := by decide +kernel
theorem dX8_init_39 : decode cX8_init 39 = .ok (.newarray .int, 2) := by decide +kernel
theorem dX8_init_41 : decode cX8_init 41 = .ok (.putfield 22, 3) := by decide +kernel
theorem dX8_init_44 : decode cX8_init 44 = .ok (.aload_n 0, 1) := by decide +kernel
theorem dX8_init_45 : decode cX8_init 45 = .ok (.bipush 20, 2) := by decide +kernel
theorem dX8_init_47 : decode cX8_init 47 = .ok (.putfield 25, 3) := by decide +kernel
theorem dX8_init_50 : decode cX8_init 50 = .ok (.aload_n 0, 1) := by decide +kernel
theorem dX8_init_51 : decode cX8_init 51 = .ok (.bipush 12, 2) := by decide +kernel
theorem dX8_init_53 : decode cX8_init 53 = .ok (.newarray .int, 2) := by decide +kernel
theorem dX8_init_55 : decode cX8_init 55 = .ok (.putfield 29, 3) := by decide +kernel
theorem dX8_init_58 : decode cX8_init 58 = .ok (.aload_n 0, 1) := by decide +kernel
theorem dX8_init_59 : decode cX8_init 59 = .ok (.bipush 120, 2) := by decide +kernel
theorem dX8_init_61 : decode cX8_init 61 = .ok (.newarray .int, 2) := by decide +kernel
theorem dX8_init_63 : decode cX8_init 63 = .ok (.putfield 32, 3) := by decide +kernel
theorem dX8_init_66 : decode cX8_init 66 = .ok (.aload_n 0, 1) := by decide +kernel
theorem dX8_init_67 : decode cX8_init 67 = .ok (.sipush 240, 3) := by decide +kernel
theorem dX8_init_70 : decode cX8_init 70 = .ok (.newarray .int, 2) := by decide +kernel
theorem dX8_init_72 : decode cX8_init 72 = .ok (.putfield 35, 3) := by decide +kernel
theorem dX8_init_75 : decode cX8_init 75 = .ok (.aload_n 0, 1) := by decide +kernel
theorem dX8_init_76 : decode cX8_init 76 = .ok (.iconst 4, 1) := by decide +kernel
theorem dX8_init_77 : decode cX8_init 77 = .ok (.newarray .int, 2) := by decide +kernel
theorem dX8_init_79 : decode cX8_init 79 = .ok (.putfield 38, 3) := by decide +kernel
theorem dX8_init_82 : decode cX8_init 82 = .ok (.aload_n 0, 1) := by decide +kernel
theorem dX8_init_83 : decode cX8_init 83 = .ok (.iconst 4, 1) := by decide +kernel
theorem dX8_init_84 : decode cX8_init 84 = .ok (.newarray .int, 2) := by decide +kernel
theorem dX8_init_86 : decode cX8_init 86 = .ok (.putfield 41, 3) := by decide +kernel
theorem dX8_init_89 : decode cX8_init 89 = .ok (.aload_n 0, 1) := by decide +kernel
theorem dX8_init_90 : decode cX8_init 90 = .ok (.iconst 4, 1) := by decide +kernel
theorem dX8_init_91 : decode cX8_init 91 = .ok (.newarray .int, 2) := by decide +kernel
theorem dX8_init_93 : decode cX8_init 93 = .ok (.putfield 44, 3) := by decide +kernel
theorem dX8_init_96 : decode cX8_init 96 = .ok (.aload_n 0, 1) := by decide +kernel
theorem dX8_init_97 : decode cX8_init 97 = .ok (.sipush 1024, 3) := by decide +kernel
theorem dX8_init_100 : decode cX8_init 100 = .ok (.newarray .boolean, 2) := by decide +kernel
theorem dX8_init_102 : decode cX8_init 102 = .ok (.putfield 47, 3) := by decide +kernel
theorem dX8_init_105 : decode cX8_init 105 = .ok (.aload_n 0, 1) := by decide +kernel
theorem dX8_init_106 : decode cX8_init 106 = .ok (.sipush 1024, 3) := by decide +kernel
theorem dX8_init_109 : decode cX8_init 109 = .ok (.newarray .boolean, 2) := by decide +kernel
theorem dX8_init_111 : decode cX8_init 111 = .ok (.putfield 51, 3) := by decide +kernel
theorem dX8_init_114 : decode cX8_init 114 = .ok (.aload_n 0, 1) := by decide +kernel
theorem dX8_init_115 : decode cX8_init 115 = .ok (.bipush 56, 2) := by decide +kernel
theorem dX8_init_117 : decode cX8_init 117 = .ok (.newarray .int, 2) := by decide +kernel
theorem dX8_init_119 : decode cX8_init 119 = .ok (.putfield 54, 3) := by decide +kernel
theorem dX8_init_122 : decode cX8_init 122 = .ok (.aload_n 0, 1) := by decide +kernel
theorem dX8_init_123 : decode cX8_init 123 = .ok (.iconst 4, 1) := by decide +kernel
theorem dX8_init_124 : decode cX8_init 124 = .ok (.newarray .int, 2) := by decide +kernel
theorem dX8_init_126 : decode cX8_init 126 = .ok (.putfield 57, 3) := by decide +kernel
theorem dX8_init_129 : decode cX8_init 129 = .ok (.aload_n 0, 1) := by decide +kernel
theorem dX8_init_130 : decode cX8_init 130 = .ok (.iconst 4, 1) := by decide +kernel
theorem dX8_init_131 : decode cX8_init 131 = .ok (.newarray .int, 2) := by decide +kernel
theorem dX8_init_133 : decode cX8_init 133 = .ok (.putfield 60, 3) := by decide +kernel
theorem dX8_init_136 : decode cX8_init 136 = .ok (.aload_n 0, 1) := by decide +kernel
theorem dX8_init_137 : decode cX8_init 137 = .ok (.bipush 96, 2) := by decide +kernel
theorem dX8_init_139 : decode cX8_init 139 = .ok (.newarray .int, 2) := by decide +kernel
theorem dX8_init_141 : decode cX8_init 141 = .ok (.putfield 63, 3) := by decide +kernel
theorem dX8_init_144 : decode cX8_init 144 = .ok (.aload_n 0, 1) := by decide +kernel
theorem dX8_init_145 : decode cX8_init 145 = .ok (.bipush 24, 2) := by decide +kernel
theorem dX8_init_147 : decode cX8_init 147 = .ok (.newarray .int, 2) := by decide +kernel
theorem dX8_init_149 : decode cX8_init 149 = .ok (.putfield 66, 3) := by decide +kernel
theorem dX8_init_152 : decode cX8_init 152 = .ok (.iconst 0, 1) := by decide +kernel
theorem dX8_init_153 : decode cX8_init 153 = .ok (.istore_n 1, 1) := by decide +kernel
theorem dX8_init_154 : decode cX8_init 154 = .ok (.iload_n 1, 1) := by decide +kernel
theorem dX8_init_155 : decode cX8_init 155 = .ok (.iconst 4, 1) := by decide +kernel
theorem dX8_init_156 : decode cX8_init 156 = .ok (.if_icmp .ge 16, 3) := by decide +kernel
theorem dX8_init_159 : decode cX8_init 159 = .ok (.aload_n 0, 1) := by decide +kernel
theorem dX8_init_160 : decode cX8_init 160 = .ok (.getfield 57, 3) := by decide +kernel
theorem dX8_init_163 : decode cX8_init 163 = .ok (.iload_n 1, 1) := by decide +kernel
theorem dX8_init_164 : decode cX8_init 164 = .ok (.iconst (-1), 1) := by decide +kernel
theorem dX8_init_165 : decode cX8_init 165 = .ok (.iastore, 1) := by decide +kernel
theorem dX8_init_166 : decode cX8_init 166 = .ok (.iinc 1 1, 3) := by decide +kernel
theorem dX8_init_169 : decode cX8_init 169 = .ok (.goto (-15), 3) := by decide +kernel
theorem dX8_init_172 : decode cX8_init 172 = .ok (.return_, 1) := by decide +kernel
theorem dX8_in_0 : decode cX8_in 0 = .ok (.lload_n 0, 1) := by decide +kernel
theorem dX8_in_1 : decode cX8_in 1 = .ok (.lload_n 2, 1) := by decide +kernel
theorem dX8_in_2 : decode cX8_in 2 = .ok (.lcmp, 1) := by decide +kernel
theorem dX8_in_3 : decode cX8_in 3 = .ok (.ifCond .lt 14, 3) := by decide +kernel
theorem dX8_in_6 : decode cX8_in 6 = .ok (.lload_n 0, 1) := by decide +kernel
theorem dX8_in_7 : decode cX8_in 7 = .ok (.lload 4, 2) := by decide +kernel
theorem dX8_in_9 : decode cX8_in 9 = .ok (.lcmp, 1) := by decide +kernel
theorem dX8_in_10 : decode cX8_in 10 = .ok (.ifCond .gt 7, 3) := by decide +kernel
theorem dX8_in_13 : decode cX8_in 13 = .ok (.iconst 1, 1) := by decide +kernel
theorem dX8_in_14 : decode cX8_in 14 = .ok (.goto 4, 3) := by decide +kernel
theorem dX8_in_17 : decode cX8_in 17 = .ok (.iconst 0, 1) := by decide +kernel
theorem dX8_in_18 : decode cX8_in 18 = .ok (.ireturn, 1) := by decide +kernel
theorem dX8_has_0 : decode cX8_has 0 = .ok (.iload_n 0, 1) := by decide +kernel
theorem dX8_has_1 : decode cX8_has 1 = .ok (.iload_n 1, 1) := by decide +kernel
theorem dX8_has_2 : decode cX8_has 2 = .ok (.ishr, 1) := by decide +kernel
theorem dX8_has_3 : decode cX8_has 3 = .ok (.iconst 1, 1) := by decide +kernel
theorem dX8_has_4 : decode cX8_has 4 = .ok (.iand, 1) := by decide +kernel
theorem dX8_has_5 : decode cX8_has 5 = .ok (.iconst 1, 1) := by decide +kernel
theorem dX8_has_6 : decode cX8_has 6 = .ok (.if_icmp .ne 7, 3) := by decide +kernel
theorem dX8_has_9 : decode cX8_has 9 = .ok (.iconst 1, 1) := by decide +kernel
theorem dX8_has_10 : decode cX8_has 10 = .ok (.goto 4, 3) := by decide +kernel
theorem dX8_has_13 : decode cX8_has 13 = .ok (.iconst 0, 1) := by decide +kernel
theorem dX8_has_14 : decode cX8_has 14 = .ok (.ireturn, 1) := by decide +kernel
theorem dX8_isOne_0 : decode cX8_isOne 0 = .ok (.iload_n 1, 1) := by decide +kernel
theorem dX8_isOne_1 : decode cX8_isOne 1 = .ok (.i2l, 1) := by decide +kernel
theorem dX8_isOne_2 : decode cX8_isOne 2 = .ok (.lconst 0, 1) := by decide +kernel
theorem dX8_isOne_3 : decode cX8_isOne 3 = .ok (.aload_n 0, 1) := by decide +kernel
theorem dX8_isOne_4 : decode cX8_isOne 4 = .ok (.getfield 69, 3) := by decide +kernel
theorem dX8_isOne_7 : decode cX8_isOne 7 = .ok (.iconst 1, 1) := by decide +kernel
theorem dX8_isOne_8 : decode cX8_isOne 8 = .ok (.isub, 1) := by decide +kernel
theorem dX8_isOne_9 : decode cX8_isOne 9 = .ok (.i2l, 1) := by decide +kernel
theorem dX8_isOne_10 : decode cX8_isOne 10 = .ok (.invokestatic 72, 3) := by decide +kernel
theorem dX8_isOne_13 : decode cX8_isOne 13 = .ok (.ireturn, 1) := by decide +kernel
theorem dX8_isCar_0 : decode cX8_isCar 0 = .ok (.iload_n 0, 1) := by decide +kernel
theorem dX8_isCar_1 : decode cX8_isCar 1 = .ok (.i2l, 1) := by decide +kernel
theorem dX8_isCar_2 : decode cX8_isCar 2 = .ok (.lconst 0, 1) := by decide +kernel
theorem dX8_isCar_3 : decode cX8_isCar 3 = .ok (.ldc2_w 76, 3) := by decide +kernel
theorem dX8_isCar_6 : decode cX8_isCar 6 = .ok (.invokestatic 72, 3) := by decide +kernel
theorem dX8_isCar_9 : decode cX8_isCar 9 = .ok (.ireturn, 1) := by decide +kernel
theorem dX8_add_0 : decode cX8_add 0 = .ok (.aload_n 0, 1) := by decide +kernel
theorem dX8_add_1 : decode cX8_add 1 = .ok (.getfield 7, 3) := by decide +kernel
theorem dX8_add_4 : decode cX8_add 4 = .ok (.aload_n 0, 1) := by decide +kernel
theorem dX8_add_5 : decode cX8_add 5 = .ok (.getfield 69, 3) := by decide +kernel
theorem dX8_add_8 : decode cX8_add 8 = .ok (.iload_n 1, 1) := by decide +kernel
theorem dX8_add_9 : decode cX8_add 9 = .ok (.iastore, 1) := by decide +kernel
theorem dX8_add_10 : decode cX8_add 10 = .ok (.aload_n 0, 1) := by decide +kernel
theorem dX8_add_11 : decode cX8_add 11 = .ok (.getfield 13, 3) := by decide +kernel
theorem dX8_add_14 : decode cX8_add 14 = .ok (.aload_n 0, 1) := by decide +kernel
theorem dX8_add_15 : decode cX8_add 15 = .ok (.getfield 69, 3) := by decide +kernel
theorem dX8_add_18 : decode cX8_add 18 = .ok (.iload_n 2, 1) := by decide +kernel
theorem dX8_add_19 : decode cX8_add 19 = .ok (.iastore, 1) := by decide +kernel
theorem dX8_add_20 : decode cX8_add 20 = .ok (.aload_n 0, 1) := by decide +kernel
theorem dX8_add_21 : decode cX8_add 21 = .ok (.getfield 16, 3) := by decide +kernel
theorem dX8_add_24 : decode cX8_add 24 = .ok (.aload_n 0, 1) := by decide +kernel
theorem dX8_add_25 : decode cX8_add 25 = .ok (.getfield 69, 3) := by decide +kernel
theorem dX8_add_28 : decode cX8_add 28 = .ok (.bipush 12, 2) := by decide +kernel
theorem dX8_add_30 : decode cX8_add 30 = .ok (.iastore, 1) := by decide +kernel
theorem dX8_add_31 : decode cX8_add 31 = .ok (.aload_n 0, 1) := by decide +kernel
theorem dX8_add_32 : decode cX8_add 32 = .ok (.getfield 19, 3) := by decide +kernel
theorem dX8_add_35 : decode cX8_add 35 = .ok (.aload_n 0, 1) := by decide +kernel
theorem dX8_add_36 : decode cX8_add 36 = .ok (.getfield 69, 3) := by decide +kernel
theorem dX8_add_39 : decode cX8_add 39 = .ok (.bipush (-4), 2) := by decide +kernel
theorem dX8_add_41 : decode cX8_add 41 = .ok (.iastore, 1) := by decide +kernel
theorem dX8_add_42 : decode cX8_add 42 = .ok (.aload_n 0, 1) := by decide +kernel
theorem dX8_add_43 : decode cX8_add 43 = .ok (.dup, 1) := by decide +kernel
theorem dX8_add_44 : decode cX8_add 44 = .ok (.getfield 69, 3) := by decide +kernel
theorem dX8_add_47 : decode cX8_add 47 = .ok (.iconst 1, 1) := by decide +kernel
theorem dX8_add_48 : decode cX8_add 48 = .ok (.iadd, 1) := by decide +kernel
theorem dX8_add_49 : decode cX8_add 49 = .ok (.putfield 69, 3) := by decide +kernel
theorem dX8_add_52 : decode cX8_add 52 = .ok (.return_, 1) := by decide +kernel
theorem dX8_person_0 : decode cX8_person 0 = .ok (.iload_n 1, 1) := by decide +kernel
theorem dX8_person_1 : decode cX8_person 1 = .ok (.i2l, 1) := by decide +kernel
theorem dX8_person_2 : decode cX8_person 2 = .ok (.lconst 0, 1) := by decide +kernel
theorem dX8_person_3 : decode cX8_person 3 = .ok (.ldc2_w 78, 3) := by decide +kernel
theorem dX8_person_6 : decode cX8_person 6 = .ok (.invokestatic 72, 3) := by decide +kernel
theorem dX8_person_9 : decode cX8_person 9 = .ok (.ifCond .eq 15, 3) := by decide +kernel
theorem dX8_person_12 : decode cX8_person 12 = .ok (.iload_n 2, 1) := by decide +kernel
theorem dX8_person_13 : decode cX8_person 13 = .ok (.i2l, 1) := by decide +kernel
theorem dX8_person_14 : decode cX8_person 14 = .ok (.lconst 1, 1) := by decide +kernel
theorem dX8_person_15 : decode cX8_person 15 = .ok (.ldc2_w 80, 3) := by decide +kernel
theorem dX8_person_18 : decode cX8_person 18 = .ok (.invokestatic 72, 3) := by decide +kernel
theorem dX8_person_21 : decode cX8_person 21 = .ok (.ifCond .ne 5, 3) := by decide +kernel
theorem dX8_person_24 : decode cX8_person 24 = .ok (.iconst (-1), 1) := by decide +kernel
theorem dX8_person_25 : decode cX8_person 25 = .ok (.ireturn, 1) := by decide +kernel
theorem dX8_person_26 : decode cX8_person 26 = .ok (.aload_n 0, 1) := by decide +kernel
theorem dX8_person_27 : decode cX8_person 27 = .ok (.getfield 69, 3) := by decide +kernel
theorem dX8_person_30 : decode cX8_person 30 = .ok (.bipush 10, 2) := by decide +kernel
theorem dX8_person_32 : decode cX8_person 32 = .ok (.if_icmp .ne 6, 3) := by decide +kernel
theorem dX8_person_35 : decode cX8_person 35 = .ok (.bipush (-3), 2) := by decide +kernel
theorem dX8_person_37 : decode cX8_person 37 = .ok (.ireturn, 1) := by decide +kernel
theorem dX8_person_38 : decode cX8_person 38 = .ok (.aload_n 0, 1) := by decide +kernel
theorem dX8_person_39 : decode cX8_person 39 = .ok (.iload_n 1, 1) := by decide +kernel
theorem dX8_person_40 : decode cX8_person 40 = .ok (.iload_n 2, 1) := by decide +kernel
theorem dX8_person_41 : decode cX8_person 41 = .ok (.invokevirtual 82, 3) := by decide +kernel
theorem dX8_person_44 : decode cX8_person 44 = .ok (.aload_n 0, 1) := by decide +kernel
theorem dX8_person_45 : decode cX8_person 45 = .ok (.getfield 69, 3) := by decide +kernel
theorem dX8_person_48 : decode cX8_person 48 = .ok (.iconst 1, 1) := by decide +kernel
theorem dX8_person_49 : decode cX8_person 49 = .ok (.isub, 1) := by decide +kernel
theorem dX8_person_50 : decode cX8_person 50 = .ok (.ireturn, 1) := by decide +kernel
theorem dX8_told_0 : decode cX8_told 0 = .ok (.aload_n 0, 1) := by decide +kernel
theorem dX8_told_1 : decode cX8_told 1 = .ok (.iload_n 1, 1) := by decide +kernel
theorem dX8_told_2 : decode cX8_told 2 = .ok (.invokevirtual 86, 3) := by decide +kernel
theorem dX8_told_5 : decode cX8_told 5 = .ok (.ifCond .eq 15, 3) := by decide +kernel
theorem dX8_told_8 : decode cX8_told 8 = .ok (.iload_n 2, 1) := by decide +kernel
theorem dX8_told_9 : decode cX8_told 9 = .ok (.i2l, 1) := by decide +kernel
theorem dX8_told_10 : decode cX8_told 10 = .ok (.lconst 0, 1) := by decide +kernel
theorem dX8_told_11 : decode cX8_told 11 = .ok (.ldc2_w 78, 3) := by decide +kernel
theorem dX8_told_14 : decode cX8_told 14 = .ok (.invokestatic 72, 3) := by decide +kernel
theorem dX8_told_17 : decode cX8_told 17 = .ok (.ifCond .ne 5, 3) := by decide +kernel
theorem dX8_told_20 : decode cX8_told 20 = .ok (.iconst (-1), 1) := by decide +kernel
theorem dX8_told_21 : decode cX8_told 21 = .ok (.ireturn, 1) := by decide +kernel
theorem dX8_told_22 : decode cX8_told 22 = .ok (.iload_n 2, 1) := by decide +kernel
theorem dX8_told_23 : decode cX8_told 23 = .ok (.ifCond .ne 12, 3) := by decide +kernel
theorem dX8_told_26 : decode cX8_told 26 = .ok (.aload_n 0, 1) := by decide +kernel
theorem dX8_told_27 : decode cX8_told 27 = .ok (.getfield 7, 3) := by decide +kernel
theorem dX8_told_30 : decode cX8_told 30 = .ok (.iload_n 1, 1) := by decide +kernel
theorem dX8_told_31 : decode cX8_told 31 = .ok (.iaload, 1) := by decide +kernel
theorem dX8_told_32 : decode cX8_told 32 = .ok (.goto 37, 3) := by decide +kernel
theorem dX8_told_35 : decode cX8_told 35 = .ok (.iload_n 2, 1) := by decide +kernel
theorem dX8_told_36 : decode cX8_told 36 = .ok (.iconst 1, 1) := by decide +kernel
theorem dX8_told_37 : decode cX8_told 37 = .ok (.if_icmp .ne 12, 3) := by decide +kernel
theorem dX8_told_40 : decode cX8_told 40 = .ok (.aload_n 0, 1) := by decide +kernel
theorem dX8_told_41 : decode cX8_told 41 = .ok (.getfield 13, 3) := by decide +kernel
theorem dX8_told_44 : decode cX8_told 44 = .ok (.iload_n 1, 1) := by decide +kernel
theorem dX8_told_45 : decode cX8_told 45 = .ok (.iaload, 1) := by decide +kernel
theorem dX8_told_46 : decode cX8_told 46 = .ok (.goto 23, 3) := by decide +kernel
theorem dX8_told_49 : decode cX8_told 49 = .ok (.iload_n 2, 1) := by decide +kernel
theorem dX8_told_50 : decode cX8_told 50 = .ok (.iconst 2, 1) := by decide +kernel
theorem dX8_told_51 : decode cX8_told 51 = .ok (.if_icmp .ne 12, 3) := by decide +kernel
theorem dX8_told_54 : decode cX8_told 54 = .ok (.aload_n 0, 1) := by decide +kernel
theorem dX8_told_55 : decode cX8_told 55 = .ok (.getfield 16, 3) := by decide +kernel
theorem dX8_told_58 : decode cX8_told 58 = .ok (.iload_n 1, 1) := by decide +kernel
theorem dX8_told_59 : decode cX8_told 59 = .ok (.iaload, 1) := by decide +kernel
theorem dX8_told_60 : decode cX8_told 60 = .ok (.goto 9, 3) := by decide +kernel
theorem dX8_told_63 : decode cX8_told 63 = .ok (.aload_n 0, 1) := by decide +kernel
theorem dX8_told_64 : decode cX8_told 64 = .ok (.getfield 19, 3) := by decide +kernel
theorem dX8_told_67 : decode cX8_told 67 = .ok (.iload_n 1, 1) := by decide +kernel
theorem dX8_told_68 : decode cX8_told 68 = .ok (.iaload, 1) := by decide +kernel
theorem dX8_told_69 : decode cX8_told 69 = .ok (.ireturn, 1) := by decide +kernel
theorem dX8_whoIn_0 : decode cX8_whoIn 0 = .ok (.iconst 0, 1) := by decide +kernel
theorem dX8_whoIn_1 : decode cX8_whoIn 1 = .ok (.istore_n 2, 1) := by decide +kernel
theorem dX8_whoIn_2 : decode cX8_whoIn 2 = .ok (.iconst 0, 1) := by decide +kernel
theorem dX8_whoIn_3 : decode cX8_whoIn 3 = .ok (.istore_n 3, 1) := by decide +kernel
theorem dX8_whoIn_4 : decode cX8_whoIn 4 = .ok (.iload_n 3, 1) := by decide +kernel
theorem dX8_whoIn_5 : decode cX8_whoIn 5 = .ok (.aload_n 0, 1) := by decide +kernel
theorem dX8_whoIn_6 : decode cX8_whoIn 6 = .ok (.getfield 69, 3) := by decide +kernel
theorem dX8_whoIn_9 : decode cX8_whoIn 9 = .ok (.if_icmp .ge 29, 3) := by decide +kernel
theorem dX8_whoIn_12 : decode cX8_whoIn 12 = .ok (.iload_n 2, 1) := by decide +kernel
theorem dX8_whoIn_13 : decode cX8_whoIn 13 = .ok (.aload_n 0, 1) := by decide +kernel
theorem dX8_whoIn_14 : decode cX8_whoIn 14 = .ok (.getfield 16, 3) := by decide +kernel
theorem dX8_whoIn_17 : decode cX8_whoIn 17 = .ok (.iload_n 3, 1) := by decide +kernel
theorem dX8_whoIn_18 : decode cX8_whoIn 18 = .ok (.iaload, 1) := by decide +kernel
theorem dX8_whoIn_19 : decode cX8_whoIn 19 = .ok (.iload_n 1, 1) := by decide +kernel
theorem dX8_whoIn_20 : decode cX8_whoIn 20 = .ok (.if_icmp .ne 9, 3) := by decide +kernel
theorem dX8_whoIn_23 : decode cX8_whoIn 23 = .ok (.iconst 1, 1) := by decide +kernel
theorem dX8_whoIn_24 : decode cX8_whoIn 24 = .ok (.iload_n 3, 1) := by decide +kernel
theorem dX8_whoIn_25 : decode cX8_whoIn 25 = .ok (.ishl, 1) := by decide +kernel
theorem dX8_whoIn_26 : decode cX8_whoIn 26 = .ok (.goto 4, 3) := by decide +kernel
theorem dX8_whoIn_29 : decode cX8_whoIn 29 = .ok (.iconst 0, 1) := by decide +kernel
theorem dX8_whoIn_30 : decode cX8_whoIn 30 = .ok (.ior, 1) := by decide +kernel
theorem dX8_whoIn_31 : decode cX8_whoIn 31 = .ok (.istore_n 2, 1) := by decide +kernel
theorem dX8_whoIn_32 : decode cX8_whoIn 32 = .ok (.iinc 3 1, 3) := by decide +kernel
theorem dX8_whoIn_35 : decode cX8_whoIn 35 = .ok (.goto (-31), 3) := by decide +kernel
theorem dX8_whoIn_38 : decode cX8_whoIn 38 = .ok (.iload_n 2, 1) := by decide +kernel
theorem dX8_whoIn_39 : decode cX8_whoIn 39 = .ok (.ireturn, 1) := by decide +kernel
theorem dX8_seatsOf_0 : decode cX8_seatsOf 0 = .ok (.iconst 0, 1) := by decide +kernel
theorem dX8_seatsOf_1 : decode cX8_seatsOf 1 = .ok (.istore_n 2, 1) := by decide +kernel
theorem dX8_seatsOf_2 : decode cX8_seatsOf 2 = .ok (.iconst 0, 1) := by decide +kernel
theorem dX8_seatsOf_3 : decode cX8_seatsOf 3 = .ok (.istore_n 3, 1) := by decide +kernel
theorem dX8_seatsOf_4 : decode cX8_seatsOf 4 = .ok (.iload_n 3, 1) := by decide +kernel
theorem dX8_seatsOf_5 : decode cX8_seatsOf 5 = .ok (.aload_n 0, 1) := by decide +kernel
theorem dX8_seatsOf_6 : decode cX8_seatsOf 6 = .ok (.getfield 69, 3) := by decide +kernel
theorem dX8_seatsOf_9 : decode cX8_seatsOf 9 = .ok (.if_icmp .ge 39, 3) := by decide +kernel
theorem dX8_seatsOf_12 : decode cX8_seatsOf 12 = .ok (.iload_n 2, 1) := by decide +kernel
theorem dX8_seatsOf_13 : decode cX8_seatsOf 13 = .ok (.iload_n 1, 1) := by decide +kernel
theorem dX8_seatsOf_14 : decode cX8_seatsOf 14 = .ok (.iload_n 3, 1) := by decide +kernel
theorem dX8_seatsOf_15 : decode cX8_seatsOf 15 = .ok (.invokestatic 90, 3) := by decide +kernel
theorem dX8_seatsOf_18 : decode cX8_seatsOf 18 = .ok (.ifCond .eq 21, 3) := by decide +kernel
theorem dX8_seatsOf_21 : decode cX8_seatsOf 21 = .ok (.aload_n 0, 1) := by decide +kernel
theorem dX8_seatsOf_22 : decode cX8_seatsOf 22 = .ok (.getfield 7, 3) := by decide +kernel
theorem dX8_seatsOf_25 : decode cX8_seatsOf 25 = .ok (.iload_n 3, 1) := by decide +kernel
theorem dX8_seatsOf_26 : decode cX8_seatsOf 26 = .ok (.iaload, 1) := by decide +kernel
theorem dX8_seatsOf_27 : decode cX8_seatsOf 27 = .ok (.iconst 2, 1) := by decide +kernel
theorem dX8_seatsOf_28 : decode cX8_seatsOf 28 = .ok (.if_icmp .lt 7, 3) := by decide +kernel
theorem dX8_seatsOf_31 : decode cX8_seatsOf 31 = .ok (.iconst 2, 1) := by decide +kernel
theorem dX8_seatsOf_32 : decode cX8_seatsOf 32 = .ok (.goto 8, 3) := by decide +kernel
theorem dX8_seatsOf_35 : decode cX8_seatsOf 35 = .ok (.iconst 1, 1) := by decide +kernel
theorem dX8_seatsOf_36 : decode cX8_seatsOf 36 = .ok (.goto 4, 3) := by decide +kernel
theorem dX8_seatsOf_39 : decode cX8_seatsOf 39 = .ok (.iconst 0, 1) := by decide +kernel
theorem dX8_seatsOf_40 : decode cX8_seatsOf 40 = .ok (.iadd, 1) := by decide +kernel
theorem dX8_seatsOf_41 : decode cX8_seatsOf 41 = .ok (.istore_n 2, 1) := by decide +kernel
theorem dX8_seatsOf_42 : decode cX8_seatsOf 42 = .ok (.iinc 3 1, 3) := by decide +kernel
theorem dX8_seatsOf_45 : decode cX8_seatsOf 45 = .ok (.goto (-41), 3) := by decide +kernel
theorem dX8_seatsOf_48 : decode cX8_seatsOf 48 = .ok (.iload_n 2, 1) := by decide +kernel
theorem dX8_seatsOf_49 : decode cX8_seatsOf 49 = .ok (.ireturn, 1) := by decide +kernel
theorem dX8_weightOf_0 : decode cX8_weightOf 0 = .ok (.iconst 0, 1) := by decide +kernel
theorem dX8_weightOf_1 : decode cX8_weightOf 1 = .ok (.istore_n 2, 1) := by decide +kernel
theorem dX8_weightOf_2 : decode cX8_weightOf 2 = .ok (.iconst 0, 1) := by decide +kernel
theorem dX8_weightOf_3 : decode cX8_weightOf 3 = .ok (.istore_n 3, 1) := by decide +kernel
theorem dX8_weightOf_4 : decode cX8_weightOf 4 = .ok (.iload_n 3, 1) := by decide +kernel
theorem dX8_weightOf_5 : decode cX8_weightOf 5 = .ok (.aload_n 0, 1) := by decide +kernel
theorem dX8_weightOf_6 : decode cX8_weightOf 6 = .ok (.getfield 69, 3) := by decide +kernel
theorem dX8_weightOf_9 : decode cX8_weightOf 9 = .ok (.if_icmp .ge 30, 3) := by decide +kernel
theorem dX8_weightOf_12 : decode cX8_weightOf 12 = .ok (.iload_n 2, 1) := by decide +kernel
theorem dX8_weightOf_13 : decode cX8_weightOf 13 = .ok (.iload_n 1, 1) := by decide +kernel
theorem dX8_weightOf_14 : decode cX8_weightOf 14 = .ok (.iload_n 3, 1) := by decide +kernel
theorem dX8_weightOf_15 : decode cX8_weightOf 15 = .ok (.invokestatic 90, 3) := by decide +kernel
theorem dX8_weightOf_18 : decode cX8_weightOf 18 = .ok (.ifCond .eq 12, 3) := by decide +kernel
theorem dX8_weightOf_21 : decode cX8_weightOf 21 = .ok (.aload_n 0, 1) := by decide +kernel
theorem dX8_weightOf_22 : decode cX8_weightOf 22 = .ok (.getfield 13, 3) := by decide +kernel
theorem dX8_weightOf_25 : decode cX8_weightOf 25 = .ok (.iload_n 3, 1) := by decide +kernel
theorem dX8_weightOf_26 : decode cX8_weightOf 26 = .ok (.iaload, 1) := by decide +kernel
theorem dX8_weightOf_27 : decode cX8_weightOf 27 = .ok (.goto 4, 3) := by decide +kernel
theorem dX8_weightOf_30 : decode cX8_weightOf 30 = .ok (.iconst 0, 1) := by decide +kernel
theorem dX8_weightOf_31 : decode cX8_weightOf 31 = .ok (.iadd, 1) := by decide +kernel
theorem dX8_weightOf_32 : decode cX8_weightOf 32 = .ok (.istore_n 2, 1) := by decide +kernel
theorem dX8_weightOf_33 : decode cX8_weightOf 33 = .ok (.iinc 3 1, 3) := by decide +kernel
theorem dX8_weightOf_36 : decode cX8_weightOf 36 = .ok (.goto (-32), 3) := by decide +kernel
theorem dX8_weightOf_39 : decode cX8_weightOf 39 = .ok (.iload_n 2, 1) := by decide +kernel
theorem dX8_weightOf_40 : decode cX8_weightOf 40 = .ok (.ireturn, 1) := by decide +kernel
theorem dX8_fits_0 : decode cX8_fits 0 = .ok (.iconst 0, 1) := by decide +kernel
theorem dX8_fits_1 : decode cX8_fits 1 = .ok (.istore_n 2, 1) := by decide +kernel
theorem dX8_fits_2 : decode cX8_fits 2 = .ok (.iconst 0, 1) := by decide +kernel
theorem dX8_fits_3 : decode cX8_fits 3 = .ok (.istore_n 3, 1) := by decide +kernel
theorem dX8_fits_4 : decode cX8_fits 4 = .ok (.iconst 0, 1) := by decide +kernel
theorem dX8_fits_5 : decode cX8_fits 5 = .ok (.istore 4, 2) := by decide +kernel
theorem dX8_fits_7 : decode cX8_fits 7 = .ok (.iconst 0, 1) := by decide +kernel
theorem dX8_fits_8 : decode cX8_fits 8 = .ok (.istore 5, 2) := by decide +kernel
theorem dX8_fits_10 : decode cX8_fits 10 = .ok (.iload 5, 2) := by decide +kernel
theorem dX8_fits_12 : decode cX8_fits 12 = .ok (.aload_n 0, 1) := by decide +kernel
theorem dX8_fits_13 : decode cX8_fits 13 = .ok (.getfield 69, 3) := by decide +kernel
theorem dX8_fits_16 : decode cX8_fits 16 = .ok (.if_icmp .ge 83, 3) := by decide +kernel
theorem dX8_fits_19 : decode cX8_fits 19 = .ok (.iload_n 1, 1) := by decide +kernel
theorem dX8_fits_20 : decode cX8_fits 20 = .ok (.iload 5, 2) := by decide +kernel
theorem dX8_fits_22 : decode cX8_fits 22 = .ok (.invokestatic 90, 3) := by decide +kernel
theorem dX8_fits_25 : decode cX8_fits 25 = .ok (.ifCond .eq 68, 3) := by decide +kernel
theorem dX8_fits_28 : decode cX8_fits 28 = .ok (.iload_n 2, 1) := by decide +kernel
theorem dX8_fits_29 : decode cX8_fits 29 = .ok (.ifCond .ne 14, 3) := by decide +kernel
theorem dX8_fits_32 : decode cX8_fits 32 = .ok (.aload_n 0, 1) := by decide +kernel
theorem dX8_fits_33 : decode cX8_fits 33 = .ok (.getfield 7, 3) := by decide +kernel
theorem dX8_fits_36 : decode cX8_fits 36 = .ok (.iload 5, 2) := by decide +kernel
theorem dX8_fits_38 : decode cX8_fits 38 = .ok (.iaload, 1) := by decide +kernel
theorem dX8_fits_39 : decode cX8_fits 39 = .ok (.iconst 1, 1) := by decide +kernel
theorem dX8_fits_40 : decode cX8_fits 40 = .ok (.if_icmp .ne 7, 3) := by decide +kernel
theorem dX8_fits_43 : decode cX8_fits 43 = .ok (.iconst 1, 1) := by decide +kernel
theorem dX8_fits_44 : decode cX8_fits 44 = .ok (.goto 4, 3) := by decide +kernel
theorem dX8_fits_47 : decode cX8_fits 47 = .ok (.iconst 0, 1) := by decide +kernel
theorem dX8_fits_48 : decode cX8_fits 48 = .ok (.istore_n 2, 1) := by decide +kernel
theorem dX8_fits_49 : decode cX8_fits 49 = .ok (.iload_n 3, 1) := by decide +kernel
theorem dX8_fits_50 : decode cX8_fits 50 = .ok (.ifCond .ne 14, 3) := by decide +kernel
theorem dX8_fits_53 : decode cX8_fits 53 = .ok (.aload_n 0, 1) := by decide +kernel
theorem dX8_fits_54 : decode cX8_fits 54 = .ok (.getfield 7, 3) := by decide +kernel
theorem dX8_fits_57 : decode cX8_fits 57 = .ok (.iload 5, 2) := by decide +kernel
theorem dX8_fits_59 : decode cX8_fits 59 = .ok (.iaload, 1) := by decide +kernel
theorem dX8_fits_60 : decode cX8_fits 60 = .ok (.iconst 1, 1) := by decide +kernel
theorem dX8_fits_61 : decode cX8_fits 61 = .ok (.if_icmp .eq 7, 3) := by decide +kernel
theorem dX8_fits_64 : decode cX8_fits 64 = .ok (.iconst 1, 1) := by decide +kernel
theorem dX8_fits_65 : decode cX8_fits 65 = .ok (.goto 4, 3) := by decide +kernel
theorem dX8_fits_68 : decode cX8_fits 68 = .ok (.iconst 0, 1) := by decide +kernel
theorem dX8_fits_69 : decode cX8_fits 69 = .ok (.istore_n 3, 1) := by decide +kernel
theorem dX8_fits_70 : decode cX8_fits 70 = .ok (.iload 4, 2) := by decide +kernel
theorem dX8_fits_72 : decode cX8_fits 72 = .ok (.ifCond .ne 14, 3) := by decide +kernel
theorem dX8_fits_75 : decode cX8_fits 75 = .ok (.aload_n 0, 1) := by decide +kernel
theorem dX8_fits_76 : decode cX8_fits 76 = .ok (.getfield 7, 3) := by decide +kernel
theorem dX8_fits_79 : decode cX8_fits 79 = .ok (.iload 5, 2) := by decide +kernel
theorem dX8_fits_81 : decode cX8_fits 81 = .ok (.iaload, 1) := by decide +kernel
theorem dX8_fits_82 : decode cX8_fits 82 = .ok (.iconst 3, 1) := by decide +kernel
theorem dX8_fits_83 : decode cX8_fits 83 = .ok (.if_icmp .ne 7, 3) := by decide +kernel
theorem dX8_fits_86 : decode cX8_fits 86 = .ok (.iconst 1, 1) := by decide +kernel
theorem dX8_fits_87 : decode cX8_fits 87 = .ok (.goto 4, 3) := by decide +kernel
theorem dX8_fits_90 : decode cX8_fits 90 = .ok (.iconst 0, 1) := by decide +kernel
theorem dX8_fits_91 : decode cX8_fits 91 = .ok (.istore 4, 2) := by decide +kernel
theorem dX8_fits_93 : decode cX8_fits 93 = .ok (.iinc 5 1, 3) := by decide +kernel
theorem dX8_fits_96 : decode cX8_fits 96 = .ok (.goto (-86), 3) := by decide +kernel
theorem dX8_fits_99 : decode cX8_fits 99 = .ok (.aload_n 0, 1) := by decide +kernel
theorem dX8_fits_100 : decode cX8_fits 100 = .ok (.iload_n 1, 1) := by decide +kernel
theorem dX8_fits_101 : decode cX8_fits 101 = .ok (.invokevirtual 94, 3) := by decide +kernel
theorem dX8_fits_104 : decode cX8_fits 104 = .ok (.iconst 3, 1) := by decide +kernel
theorem dX8_fits_105 : decode cX8_fits 105 = .ok (.if_icmp .gt 24, 3) := by decide +kernel
theorem dX8_fits_108 : decode cX8_fits 108 = .ok (.iload_n 2, 1) := by decide +kernel
theorem dX8_fits_109 : decode cX8_fits 109 = .ok (.ifCond .eq 7, 3) := by decide +kernel
theorem dX8_fits_112 : decode cX8_fits 112 = .ok (.iload_n 3, 1) := by decide +kernel
theorem dX8_fits_113 : decode cX8_fits 113 = .ok (.ifCond .eq 16, 3) := by decide +kernel
theorem dX8_fits_116 : decode cX8_fits 116 = .ok (.iload_n 2, 1) := by decide +kernel
theorem dX8_fits_117 : decode cX8_fits 117 = .ok (.ifCond .eq 8, 3) := by decide +kernel
theorem dX8_fits_120 : decode cX8_fits 120 = .ok (.iload 4, 2) := by decide +kernel
theorem dX8_fits_122 : decode cX8_fits 122 = .ok (.ifCond .ne 7, 3) := by decide +kernel
theorem dX8_fits_125 : decode cX8_fits 125 = .ok (.iconst 1, 1) := by decide +kernel
theorem dX8_fits_126 : decode cX8_fits 126 = .ok (.goto 4, 3) := by decide +kernel
theorem dX8_fits_129 : decode cX8_fits 129 = .ok (.iconst 0, 1) := by decide +kernel
theorem dX8_fits_130 : decode cX8_fits 130 = .ok (.ireturn, 1) := by decide +kernel
theorem dX8_car_0 : decode cX8_car 0 = .ok (.iload_n 1, 1) := by decide +kernel
theorem dX8_car_1 : decode cX8_car 1 = .ok (.invokestatic 98, 3) := by decide +kernel
theorem dX8_car_4 : decode cX8_car 4 = .ok (.ifCond .eq 15, 3) := by decide +kernel
theorem dX8_car_7 : decode cX8_car 7 = .ok (.iload_n 2, 1) := by decide +kernel
theorem dX8_car_8 : decode cX8_car 8 = .ok (.i2l, 1) := by decide +kernel
theorem dX8_car_9 : decode cX8_car 9 = .ok (.lconst 0, 1) := by decide +kernel
theorem dX8_car_10 : decode cX8_car 10 = .ok (.ldc2_w 78, 3) := by decide +kernel
theorem dX8_car_13 : decode cX8_car 13 = .ok (.invokestatic 72, 3) := by decide +kernel
theorem dX8_car_16 : decode cX8_car 16 = .ok (.ifCond .ne 5, 3) := by decide +kernel
theorem dX8_car_19 : decode cX8_car 19 = .ok (.iconst (-1), 1) := by decide +kernel
theorem dX8_car_20 : decode cX8_car 20 = .ok (.ireturn, 1) := by decide +kernel
theorem dX8_car_21 : decode cX8_car 21 = .ok (.aload_n 0, 1) := by decide +kernel
theorem dX8_car_22 : decode cX8_car 22 = .ok (.iload_n 1, 1) := by decide +kernel
theorem dX8_car_23 : decode cX8_car 23 = .ok (.invokevirtual 101, 3) := by decide +kernel
theorem dX8_car_26 : decode cX8_car 26 = .ok (.istore_n 3, 1) := by decide +kernel
theorem dX8_car_27 : decode cX8_car 27 = .ok (.iload_n 2, 1) := by decide +kernel
theorem dX8_car_28 : decode cX8_car 28 = .ok (.ifCond .ne 18, 3) := by decide +kernel
theorem dX8_car_31 : decode cX8_car 31 = .ok (.aload_n 0, 1) := by decide +kernel
theorem dX8_car_32 : decode cX8_car 32 = .ok (.iload_n 3, 1) := by decide +kernel
theorem dX8_car_33 : decode cX8_car 33 = .ok (.invokevirtual 104, 3) := by decide +kernel
theorem dX8_car_36 : decode cX8_car 36 = .ok (.aload_n 0, 1) := by decide +kernel
theorem dX8_car_37 : decode cX8_car 37 = .ok (.getfield 22, 3) := by decide +kernel
theorem dX8_car_40 : decode cX8_car 40 = .ok (.iload_n 1, 1) := by decide +kernel
theorem dX8_car_41 : decode cX8_car 41 = .ok (.iaload, 1) := by decide +kernel
theorem dX8_car_42 : decode cX8_car 42 = .ok (.iadd, 1) := by decide +kernel
theorem dX8_car_43 : decode cX8_car 43 = .ok (.goto 31, 3) := by decide +kernel
theorem dX8_car_46 : decode cX8_car 46 = .ok (.iload_n 2, 1) := by decide +kernel
theorem dX8_car_47 : decode cX8_car 47 = .ok (.iconst 1, 1) := by decide +kernel
theorem dX8_car_48 : decode cX8_car 48 = .ok (.if_icmp .ne 11, 3) := by decide +kernel
theorem dX8_car_51 : decode cX8_car 51 = .ok (.aload_n 0, 1) := by decide +kernel
theorem dX8_car_52 : decode cX8_car 52 = .ok (.iload_n 3, 1) := by decide +kernel
theorem dX8_car_53 : decode cX8_car 53 = .ok (.invokevirtual 94, 3) := by decide +kernel
theorem dX8_car_56 : decode cX8_car 56 = .ok (.goto 18, 3) := by decide +kernel
theorem dX8_car_59 : decode cX8_car 59 = .ok (.iload_n 2, 1) := by decide +kernel
theorem dX8_car_60 : decode cX8_car 60 = .ok (.iconst 2, 1) := by decide +kernel
theorem dX8_car_61 : decode cX8_car 61 = .ok (.if_icmp .ne 12, 3) := by decide +kernel
theorem dX8_car_64 : decode cX8_car 64 = .ok (.aload_n 0, 1) := by decide +kernel
theorem dX8_car_65 : decode cX8_car 65 = .ok (.getfield 22, 3) := by decide +kernel
theorem dX8_car_68 : decode cX8_car 68 = .ok (.iload_n 1, 1) := by decide +kernel
theorem dX8_car_69 : decode cX8_car 69 = .ok (.iaload, 1) := by decide +kernel
theorem dX8_car_70 : decode cX8_car 70 = .ok (.goto 4, 3) := by decide +kernel
theorem dX8_car_73 : decode cX8_car 73 = .ok (.iload_n 3, 1) := by decide +kernel
theorem dX8_car_74 : decode cX8_car 74 = .ok (.ireturn, 1) := by decide +kernel
theorem dX8_findLoads_0 : decode cX8_findLoads 0 = .ok (.iconst 0, 1) := by decide +kernel
theorem dX8_findLoads_1 : decode cX8_findLoads 1 = .ok (.istore_n 1, 1) := by decide +kernel
theorem dX8_findLoads_2 : decode cX8_findLoads 2 = .ok (.iload_n 1, 1) := by decide +kernel
theorem dX8_findLoads_3 : decode cX8_findLoads 3 = .ok (.bipush 12, 2) := by decide +kernel
theorem dX8_findLoads_5 : decode cX8_findLoads 5 = .ok (.if_icmp .ge 21, 3) := by decide +kernel
theorem dX8_findLoads_8 : decode cX8_findLoads 8 = .ok (.aload_n 0, 1) := by decide +kernel
theorem dX8_findLoads_9 : decode cX8_findLoads 9 = .ok (.getfield 29, 3) := by decide +kernel
theorem dX8_findLoads_12 : decode cX8_findLoads 12 = .ok (.iload_n 1, 1) := by decide +kernel
theorem dX8_findLoads_13 : decode cX8_findLoads 13 = .ok (.aload_n 0, 1) := by decide +kernel
theorem dX8_findLoads_14 : decode cX8_findLoads 14 = .ok (.getfield 22, 3) := by decide +kernel
theorem dX8_findLoads_17 : decode cX8_findLoads 17 = .ok (.iload_n 1, 1) := by decide +kernel
theorem dX8_findLoads_18 : decode cX8_findLoads 18 = .ok (.iaload, 1) := by decide +kernel
theorem dX8_findLoads_19 : decode cX8_findLoads 19 = .ok (.iastore, 1) := by decide +kernel
theorem dX8_findLoads_20 : decode cX8_findLoads 20 = .ok (.iinc 1 1, 3) := by decide +kernel
theorem dX8_findLoads_23 : decode cX8_findLoads 23 = .ok (.goto (-21), 3) := by decide +kernel
theorem dX8_findLoads_26 : decode cX8_findLoads 26 = .ok (.iconst 0, 1) := by decide +kernel
theorem dX8_findLoads_27 : decode cX8_findLoads 27 = .ok (.istore_n 1, 1) := by decide +kernel
theorem dX8_findLoads_28 : decode cX8_findLoads 28 = .ok (.iload_n 1, 1) := by decide +kernel
theorem dX8_findLoads_29 : decode cX8_findLoads 29 = .ok (.aload_n 0, 1) := by decide +kernel
theorem dX8_findLoads_30 : decode cX8_findLoads 30 = .ok (.getfield 69, 3) := by decide +kernel
theorem dX8_findLoads_33 : decode cX8_findLoads 33 = .ok (.if_icmp .ge 40, 3) := by decide +kernel
theorem dX8_findLoads_36 : decode cX8_findLoads 36 = .ok (.aload_n 0, 1) := by decide +kernel
theorem dX8_findLoads_37 : decode cX8_findLoads 37 = .ok (.getfield 16, 3) := by decide +kernel
theorem dX8_findLoads_40 : decode cX8_findLoads 40 = .ok (.iload_n 1, 1) := by decide +kernel
theorem dX8_findLoads_41 : decode cX8_findLoads 41 = .ok (.iaload, 1) := by decide +kernel
theorem dX8_findLoads_42 : decode cX8_findLoads 42 = .ok (.bipush 12, 2) := by decide +kernel
theorem dX8_findLoads_44 : decode cX8_findLoads 44 = .ok (.if_icmp .ge 23, 3) := by decide +kernel
theorem dX8_findLoads_47 : decode cX8_findLoads 47 = .ok (.aload_n 0, 1) := by decide +kernel
theorem dX8_findLoads_48 : decode cX8_findLoads 48 = .ok (.getfield 29, 3) := by decide +kernel
theorem dX8_findLoads_51 : decode cX8_findLoads 51 = .ok (.aload_n 0, 1) := by decide +kernel
theorem dX8_findLoads_52 : decode cX8_findLoads 52 = .ok (.getfield 16, 3) := by decide +kernel
theorem dX8_findLoads_55 : decode cX8_findLoads 55 = .ok (.iload_n 1, 1) := by decide +kernel
theorem dX8_findLoads_56 : decode cX8_findLoads 56 = .ok (.iaload, 1) := by decide +kernel
theorem dX8_findLoads_57 : decode cX8_findLoads 57 = .ok (.dup2, 1) := by decide +kernel
theorem dX8_findLoads_58 : decode cX8_findLoads 58 = .ok (.iaload, 1) := by decide +kernel
theorem dX8_findLoads_59 : decode cX8_findLoads 59 = .ok (.aload_n 0, 1) := by decide +kernel
theorem dX8_findLoads_60 : decode cX8_findLoads 60 = .ok (.getfield 13, 3) := by decide +kernel
theorem dX8_findLoads_63 : decode cX8_findLoads 63 = .ok (.iload_n 1, 1) := by decide +kernel
theorem dX8_findLoads_64 : decode cX8_findLoads 64 = .ok (.iaload, 1) := by decide +kernel
theorem dX8_findLoads_65 : decode cX8_findLoads 65 = .ok (.iadd, 1) := by decide +kernel
theorem dX8_findLoads_66 : decode cX8_findLoads 66 = .ok (.iastore, 1) := by decide +kernel
theorem dX8_findLoads_67 : decode cX8_findLoads 67 = .ok (.iinc 1 1, 3) := by decide +kernel
theorem dX8_findLoads_70 : decode cX8_findLoads 70 = .ok (.goto (-42), 3) := by decide +kernel
theorem dX8_findLoads_73 : decode cX8_findLoads 73 = .ok (.return_, 1) := by decide +kernel
theorem dX8_cosine_0 : decode cX8_cosine 0 = .ok (.iload_n 0, 1) := by decide +kernel
theorem dX8_cosine_1 : decode cX8_cosine 1 = .ok (.bipush 6, 2) := by decide +kernel
theorem dX8_cosine_3 : decode cX8_cosine 3 = .ok (.if_icmp .le 10, 3) := by decide +kernel
theorem dX8_cosine_6 : decode cX8_cosine 6 = .ok (.bipush 12, 2) := by decide +kernel
theorem dX8_cosine_8 : decode cX8_cosine 8 = .ok (.iload_n 0, 1) := by decide +kernel
theorem dX8_cosine_9 : decode cX8_cosine 9 = .ok (.isub, 1) := by decide +kernel
theorem dX8_cosine_10 : decode cX8_cosine 10 = .ok (.goto 4, 3) := by decide +kernel
theorem dX8_cosine_13 : decode cX8_cosine 13 = .ok (.iload_n 0, 1) := by decide +kernel
theorem dX8_cosine_14 : decode cX8_cosine 14 = .ok (.istore_n 2, 1) := by decide +kernel
theorem dX8_cosine_15 : decode cX8_cosine 15 = .ok (.iload_n 1, 1) := by decide +kernel
theorem dX8_cosine_16 : decode cX8_cosine 16 = .ok (.iconst 1, 1) := by decide +kernel
theorem dX8_cosine_17 : decode cX8_cosine 17 = .ok (.if_icmp .ne 23, 3) := by decide +kernel
theorem dX8_cosine_20 : decode cX8_cosine 20 = .ok (.iload_n 2, 1) := by decide +kernel
theorem dX8_cosine_21 : decode cX8_cosine 21 = .ok (.iconst 1, 1) := by decide +kernel
theorem dX8_cosine_22 : decode cX8_cosine 22 = .ok (.if_icmp .ne 7, 3) := by decide +kernel
theorem dX8_cosine_25 : decode cX8_cosine 25 = .ok (.iconst 1, 1) := by decide +kernel
theorem dX8_cosine_26 : decode cX8_cosine 26 = .ok (.goto 13, 3) := by decide +kernel
theorem dX8_cosine_29 : decode cX8_cosine 29 = .ok (.iload_n 2, 1) := by decide +kernel
theorem dX8_cosine_30 : decode cX8_cosine 30 = .ok (.iconst 5, 1) := by decide +kernel
theorem dX8_cosine_31 : decode cX8_cosine 31 = .ok (.if_icmp .ne 7, 3) := by decide +kernel
theorem dX8_cosine_34 : decode cX8_cosine 34 = .ok (.iconst (-1), 1) := by decide +kernel
theorem dX8_cosine_35 : decode cX8_cosine 35 = .ok (.goto 4, 3) := by decide +kernel
theorem dX8_cosine_38 : decode cX8_cosine 38 = .ok (.iconst 0, 1) := by decide +kernel
theorem dX8_cosine_39 : decode cX8_cosine 39 = .ok (.ireturn, 1) := by decide +kernel
theorem dX8_cosine_40 : decode cX8_cosine 40 = .ok (.iload_n 2, 1) := by decide +kernel
theorem dX8_cosine_41 : decode cX8_cosine 41 = .ok (.ifCond .ne 7, 3) := by decide +kernel
theorem dX8_cosine_44 : decode cX8_cosine 44 = .ok (.iconst 2, 1) := by decide +kernel
theorem dX8_cosine_45 : decode cX8_cosine 45 = .ok (.goto 33, 3) := by decide +kernel
theorem dX8_cosine_48 : decode cX8_cosine 48 = .ok (.iload_n 2, 1) := by decide +kernel
theorem dX8_cosine_49 : decode cX8_cosine 49 = .ok (.iconst 2, 1) := by decide +kernel
theorem dX8_cosine_50 : decode cX8_cosine 50 = .ok (.if_icmp .ne 7, 3) := by decide +kernel
theorem dX8_cosine_53 : decode cX8_cosine 53 = .ok (.iconst 1, 1) := by decide +kernel
theorem dX8_cosine_54 : decode cX8_cosine 54 = .ok (.goto 24, 3) := by decide +kernel
theorem dX8_cosine_57 : decode cX8_cosine 57 = .ok (.iload_n 2, 1) := by decide +kernel
theorem dX8_cosine_58 : decode cX8_cosine 58 = .ok (.iconst 4, 1) := by decide +kernel
theorem dX8_cosine_59 : decode cX8_cosine 59 = .ok (.if_icmp .ne 7, 3) := by decide +kernel
theorem dX8_cosine_62 : decode cX8_cosine 62 = .ok (.iconst (-1), 1) := by decide +kernel
theorem dX8_cosine_63 : decode cX8_cosine 63 = .ok (.goto 15, 3) := by decide +kernel
theorem dX8_cosine_66 : decode cX8_cosine 66 = .ok (.iload_n 2, 1) := by decide +kernel
theorem dX8_cosine_67 : decode cX8_cosine 67 = .ok (.bipush 6, 2) := by decide +kernel
theorem dX8_cosine_69 : decode cX8_cosine 69 = .ok (.if_icmp .ne 8, 3) := by decide +kernel
theorem dX8_cosine_72 : decode cX8_cosine 72 = .ok (.bipush (-2), 2) := by decide +kernel
theorem dX8_cosine_74 : decode cX8_cosine 74 = .ok (.goto 4, 3) := by decide +kernel
theorem dX8_cosine_77 : decode cX8_cosine 77 = .ok (.iconst 0, 1) := by decide +kernel
theorem dX8_cosine_78 : decode cX8_cosine 78 = .ok (.ireturn, 1) := by decide +kernel
theorem dX8_findSquare_0 : decode cX8_findSquare 0 = .ok (.aload_n 0, 1) := by decide +kernel
theorem dX8_findSquare_1 : decode cX8_findSquare 1 = .ok (.iconst 0, 1) := by decide +kernel
theorem dX8_findSquare_2 : decode cX8_findSquare 2 = .ok (.putfield 107, 3) := by decide +kernel
theorem dX8_findSquare_5 : decode cX8_findSquare 5 = .ok (.aload_n 0, 1) := by decide +kernel
theorem dX8_findSquare_6 : decode cX8_findSquare 6 = .ok (.iconst 0, 1) := by decide +kernel
theorem dX8_findSquare_7 : decode cX8_findSquare 7 = .ok (.putfield 110, 3) := by decide +kernel
theorem dX8_findSquare_10 : decode cX8_findSquare 10 = .ok (.aload_n 0, 1) := by decide +kernel
theorem dX8_findSquare_11 : decode cX8_findSquare 11 = .ok (.iconst 0, 1) := by decide +kernel
theorem dX8_findSquare_12 : decode cX8_findSquare 12 = .ok (.putfield 113, 3) := by decide +kernel
theorem dX8_findSquare_15 : decode cX8_findSquare 15 = .ok (.aload_n 0, 1) := by decide +kernel
theorem dX8_findSquare_16 : decode cX8_findSquare 16 = .ok (.iconst 0, 1) := by decide +kernel
theorem dX8_findSquare_17 : decode cX8_findSquare 17 = .ok (.putfield 116, 3) := by decide +kernel
theorem dX8_findSquare_20 : decode cX8_findSquare 20 = .ok (.iconst 0, 1) := by decide +kernel
theorem dX8_findSquare_21 : decode cX8_findSquare 21 = .ok (.istore_n 1, 1) := by decide +kernel
theorem dX8_findSquare_22 : decode cX8_findSquare 22 = .ok (.iload_n 1, 1) := by decide +kernel
theorem dX8_findSquare_23 : decode cX8_findSquare 23 = .ok (.bipush 12, 2) := by decide +kernel
theorem dX8_findSquare_25 : decode cX8_findSquare 25 = .ok (.if_icmp .ge 105, 3) := by decide +kernel
theorem dX8_findSquare_28 : decode cX8_findSquare 28 = .ok (.aload_n 0, 1) := by decide +kernel
theorem dX8_findSquare_29 : decode cX8_findSquare 29 = .ok (.dup, 1) := by decide +kernel
theorem dX8_findSquare_30 : decode cX8_findSquare 30 = .ok (.getfield 107, 3) := by decide +kernel
theorem dX8_findSquare_33 : decode cX8_findSquare 33 = .ok (.aload_n 0, 1) := by decide +kernel
theorem dX8_findSquare_34 : decode cX8_findSquare 34 = .ok (.getfield 29, 3) := by decide +kernel
theorem dX8_findSquare_37 : decode cX8_findSquare 37 = .ok (.iload_n 1, 1) := by decide +kernel
theorem dX8_findSquare_38 : decode cX8_findSquare 38 = .ok (.iaload, 1) := by decide +kernel
theorem dX8_findSquare_39 : decode cX8_findSquare 39 = .ok (.iload_n 1, 1) := by decide +kernel
theorem dX8_findSquare_40 : decode cX8_findSquare 40 = .ok (.iconst 0, 1) := by decide +kernel
theorem dX8_findSquare_41 : decode cX8_findSquare 41 = .ok (.invokestatic 119, 3) := by decide +kernel
theorem dX8_findSquare_44 : decode cX8_findSquare 44 = .ok (.imul, 1) := by decide +kernel
theorem dX8_findSquare_45 : decode cX8_findSquare 45 = .ok (.iadd, 1) := by decide +kernel
theorem dX8_findSquare_46 : decode cX8_findSquare 46 = .ok (.putfield 107, 3) := by decide +kernel
theorem dX8_findSquare_49 : decode cX8_findSquare 49 = .ok (.aload_n 0, 1) := by decide +kernel
theorem dX8_findSquare_50 : decode cX8_findSquare 50 = .ok (.dup, 1) := by decide +kernel
theorem dX8_findSquare_51 : decode cX8_findSquare 51 = .ok (.getfield 110, 3) := by decide +kernel
theorem dX8_findSquare_54 : decode cX8_findSquare 54 = .ok (.aload_n 0, 1) := by decide +kernel
theorem dX8_findSquare_55 : decode cX8_findSquare 55 = .ok (.getfield 29, 3) := by decide +kernel
theorem dX8_findSquare_58 : decode cX8_findSquare 58 = .ok (.iload_n 1, 1) := by decide +kernel
theorem dX8_findSquare_59 : decode cX8_findSquare 59 = .ok (.iaload, 1) := by decide +kernel
theorem dX8_findSquare_60 : decode cX8_findSquare 60 = .ok (.iload_n 1, 1) := by decide +kernel
theorem dX8_findSquare_61 : decode cX8_findSquare 61 = .ok (.iconst 1, 1) := by decide +kernel
theorem dX8_findSquare_62 : decode cX8_findSquare 62 = .ok (.invokestatic 119, 3) := by decide +kernel
theorem dX8_findSquare_65 : decode cX8_findSquare 65 = .ok (.imul, 1) := by decide +kernel
theorem dX8_findSquare_66 : decode cX8_findSquare 66 = .ok (.iadd, 1) := by decide +kernel
theorem dX8_findSquare_67 : decode cX8_findSquare 67 = .ok (.putfield 110, 3) := by decide +kernel
theorem dX8_findSquare_70 : decode cX8_findSquare 70 = .ok (.aload_n 0, 1) := by decide +kernel
theorem dX8_findSquare_71 : decode cX8_findSquare 71 = .ok (.dup, 1) := by decide +kernel
theorem dX8_findSquare_72 : decode cX8_findSquare 72 = .ok (.getfield 113, 3) := by decide +kernel
theorem dX8_findSquare_75 : decode cX8_findSquare 75 = .ok (.aload_n 0, 1) := by decide +kernel
theorem dX8_findSquare_76 : decode cX8_findSquare 76 = .ok (.getfield 29, 3) := by decide +kernel
theorem dX8_findSquare_79 : decode cX8_findSquare 79 = .ok (.iload_n 1, 1) := by decide +kernel
theorem dX8_findSquare_80 : decode cX8_findSquare 80 = .ok (.iaload, 1) := by decide +kernel
theorem dX8_findSquare_81 : decode cX8_findSquare 81 = .ok (.iload_n 1, 1) := by decide +kernel
theorem dX8_findSquare_82 : decode cX8_findSquare 82 = .ok (.bipush 9, 2) := by decide +kernel
theorem dX8_findSquare_84 : decode cX8_findSquare 84 = .ok (.iadd, 1) := by decide +kernel
theorem dX8_findSquare_85 : decode cX8_findSquare 85 = .ok (.bipush 12, 2) := by decide +kernel
theorem dX8_findSquare_87 : decode cX8_findSquare 87 = .ok (.irem, 1) := by decide +kernel
theorem dX8_findSquare_88 : decode cX8_findSquare 88 = .ok (.iconst 0, 1) := by decide +kernel
theorem dX8_findSquare_89 : decode cX8_findSquare 89 = .ok (.invokestatic 119, 3) := by decide +kernel
theorem dX8_findSquare_92 : decode cX8_findSquare 92 = .ok (.imul, 1) := by decide +kernel
theorem dX8_findSquare_93 : decode cX8_findSquare 93 = .ok (.iadd, 1) := by decide +kernel
theorem dX8_findSquare_94 : decode cX8_findSquare 94 = .ok (.putfield 113, 3) := by decide +kernel
theorem dX8_findSquare_97 : decode cX8_findSquare 97 = .ok (.aload_n 0, 1) := by decide +kernel
theorem dX8_findSquare_98 : decode cX8_findSquare 98 = .ok (.dup, 1) := by decide +kernel
theorem dX8_findSquare_99 : decode cX8_findSquare 99 = .ok (.getfield 116, 3) := by decide +kernel
theorem dX8_findSquare_102 : decode cX8_findSquare 102 = .ok (.aload_n 0, 1) := by decide +kernel
theorem dX8_findSquare_103 : decode cX8_findSquare 103 = .ok (.getfield 29, 3) := by decide +kernel
theorem dX8_findSquare_106 : decode cX8_findSquare 106 = .ok (.iload_n 1, 1) := by decide +kernel
theorem dX8_findSquare_107 : decode cX8_findSquare 107 = .ok (.iaload, 1) := by decide +kernel
theorem dX8_findSquare_108 : decode cX8_findSquare 108 = .ok (.iload_n 1, 1) := by decide +kernel
theorem dX8_findSquare_109 : decode cX8_findSquare 109 = .ok (.bipush 9, 2) := by decide +kernel
theorem dX8_findSquare_111 : decode cX8_findSquare 111 = .ok (.iadd, 1) := by decide +kernel
theorem dX8_findSquare_112 : decode cX8_findSquare 112 = .ok (.bipush 12, 2) := by decide +kernel
theorem dX8_findSquare_114 : decode cX8_findSquare 114 = .ok (.irem, 1) := by decide +kernel
theorem dX8_findSquare_115 : decode cX8_findSquare 115 = .ok (.iconst 1, 1) := by decide +kernel
theorem dX8_findSquare_116 : decode cX8_findSquare 116 = .ok (.invokestatic 119, 3) := by decide +kernel
theorem dX8_findSquare_119 : decode cX8_findSquare 119 = .ok (.imul, 1) := by decide +kernel
theorem dX8_findSquare_120 : decode cX8_findSquare 120 = .ok (.iadd, 1) := by decide +kernel
theorem dX8_findSquare_121 : decode cX8_findSquare 121 = .ok (.putfield 116, 3) := by decide +kernel
theorem dX8_findSquare_124 : decode cX8_findSquare 124 = .ok (.iinc 1 1, 3) := by decide +kernel
theorem dX8_findSquare_127 : decode cX8_findSquare 127 = .ok (.goto (-105), 3) := by decide +kernel
theorem dX8_findSquare_130 : decode cX8_findSquare 130 = .ok (.aload_n 0, 1) := by decide +kernel
theorem dX8_findSquare_131 : decode cX8_findSquare 131 = .ok (.aload_n 0, 1) := by decide +kernel
theorem dX8_findSquare_132 : decode cX8_findSquare 132 = .ok (.getfield 107, 3) := by decide +kernel
theorem dX8_findSquare_135 : decode cX8_findSquare 135 = .ok (.i2l, 1) := by decide +kernel
theorem dX8_findSquare_136 : decode cX8_findSquare 136 = .ok (.aload_n 0, 1) := by decide +kernel
theorem dX8_findSquare_137 : decode cX8_findSquare 137 = .ok (.getfield 107, 3) := by decide +kernel
theorem dX8_findSquare_140 : decode cX8_findSquare 140 = .ok (.i2l, 1) := by decide +kernel
theorem dX8_findSquare_141 : decode cX8_findSquare 141 = .ok (.lmul, 1) := by decide +kernel
theorem dX8_findSquare_142 : decode cX8_findSquare 142 = .ok (.ldc2_w 78, 3) := by decide +kernel
theorem dX8_findSquare_145 : decode cX8_findSquare 145 = .ok (.aload_n 0, 1) := by decide +kernel
theorem dX8_findSquare_146 : decode cX8_findSquare 146 = .ok (.getfield 110, 3) := by decide +kernel
theorem dX8_findSquare_149 : decode cX8_findSquare 149 = .ok (.i2l, 1) := by decide +kernel
theorem dX8_findSquare_150 : decode cX8_findSquare 150 = .ok (.lmul, 1) := by decide +kernel
theorem dX8_findSquare_151 : decode cX8_findSquare 151 = .ok (.aload_n 0, 1) := by decide +kernel
theorem dX8_findSquare_152 : decode cX8_findSquare 152 = .ok (.getfield 110, 3) := by decide +kernel
theorem dX8_findSquare_155 : decode cX8_findSquare 155 = .ok (.i2l, 1) := by decide +kernel
theorem dX8_findSquare_156 : decode cX8_findSquare 156 = .ok (.lmul, 1) := by decide +kernel
theorem dX8_findSquare_157 : decode cX8_findSquare 157 = .ok (.ladd, 1) := by decide +kernel
theorem dX8_findSquare_158 : decode cX8_findSquare 158 = .ok (.aload_n 0, 1) := by decide +kernel
theorem dX8_findSquare_159 : decode cX8_findSquare 159 = .ok (.getfield 113, 3) := by decide +kernel
theorem dX8_findSquare_162 : decode cX8_findSquare 162 = .ok (.i2l, 1) := by decide +kernel
theorem dX8_findSquare_163 : decode cX8_findSquare 163 = .ok (.aload_n 0, 1) := by decide +kernel
theorem dX8_findSquare_164 : decode cX8_findSquare 164 = .ok (.getfield 113, 3) := by decide +kernel
theorem dX8_findSquare_167 : decode cX8_findSquare 167 = .ok (.i2l, 1) := by decide +kernel
theorem dX8_findSquare_168 : decode cX8_findSquare 168 = .ok (.lmul, 1) := by decide +kernel
theorem dX8_findSquare_169 : decode cX8_findSquare 169 = .ok (.ladd, 1) := by decide +kernel
theorem dX8_findSquare_170 : decode cX8_findSquare 170 = .ok (.ldc2_w 78, 3) := by decide +kernel
theorem dX8_findSquare_173 : decode cX8_findSquare 173 = .ok (.aload_n 0, 1) := by decide +kernel
theorem dX8_findSquare_174 : decode cX8_findSquare 174 = .ok (.getfield 116, 3) := by decide +kernel
theorem dX8_findSquare_177 : decode cX8_findSquare 177 = .ok (.i2l, 1) := by decide +kernel
theorem dX8_findSquare_178 : decode cX8_findSquare 178 = .ok (.lmul, 1) := by decide +kernel
theorem dX8_findSquare_179 : decode cX8_findSquare 179 = .ok (.aload_n 0, 1) := by decide +kernel
theorem dX8_findSquare_180 : decode cX8_findSquare 180 = .ok (.getfield 116, 3) := by decide +kernel
theorem dX8_findSquare_183 : decode cX8_findSquare 183 = .ok (.i2l, 1) := by decide +kernel
theorem dX8_findSquare_184 : decode cX8_findSquare 184 = .ok (.lmul, 1) := by decide +kernel
theorem dX8_findSquare_185 : decode cX8_findSquare 185 = .ok (.ladd, 1) := by decide +kernel
theorem dX8_findSquare_186 : decode cX8_findSquare 186 = .ok (.putfield 123, 3) := by decide +kernel
theorem dX8_findSquare_189 : decode cX8_findSquare 189 = .ok (.aload_n 0, 1) := by decide +kernel
theorem dX8_findSquare_190 : decode cX8_findSquare 190 = .ok (.ldc2_w 127, 3) := by decide +kernel
theorem dX8_findSquare_193 : decode cX8_findSquare 193 = .ok (.aload_n 0, 1) := by decide +kernel
theorem dX8_findSquare_194 : decode cX8_findSquare 194 = .ok (.getfield 107, 3) := by decide +kernel
theorem dX8_findSquare_197 : decode cX8_findSquare 197 = .ok (.i2l, 1) := by decide +kernel
theorem dX8_findSquare_198 : decode cX8_findSquare 198 = .ok (.aload_n 0, 1) := by decide +kernel
theorem dX8_findSquare_199 : decode cX8_findSquare 199 = .ok (.getfield 110, 3) := by decide +kernel
theorem dX8_findSquare_202 : decode cX8_findSquare 202 = .ok (.i2l, 1) := by decide +kernel
theorem dX8_findSquare_203 : decode cX8_findSquare 203 = .ok (.lmul, 1) := by decide +kernel
theorem dX8_findSquare_204 : decode cX8_findSquare 204 = .ok (.aload_n 0, 1) := by decide +kernel
theorem dX8_findSquare_205 : decode cX8_findSquare 205 = .ok (.getfield 113, 3) := by decide +kernel
theorem dX8_findSquare_208 : decode cX8_findSquare 208 = .ok (.i2l, 1) := by decide +kernel
theorem dX8_findSquare_209 : decode cX8_findSquare 209 = .ok (.aload_n 0, 1) := by decide +kernel
theorem dX8_findSquare_210 : decode cX8_findSquare 210 = .ok (.getfield 116, 3) := by decide +kernel
theorem dX8_findSquare_213 : decode cX8_findSquare 213 = .ok (.i2l, 1) := by decide +kernel
theorem dX8_findSquare_214 : decode cX8_findSquare 214 = .ok (.lmul, 1) := by decide +kernel
theorem dX8_findSquare_215 : decode cX8_findSquare 215 = .ok (.ladd, 1) := by decide +kernel
theorem dX8_findSquare_216 : decode cX8_findSquare 216 = .ok (.lmul, 1) := by decide +kernel
theorem dX8_findSquare_217 : decode cX8_findSquare 217 = .ok (.putfield 129, 3) := by decide +kernel
theorem dX8_findSquare_220 : decode cX8_findSquare 220 = .ok (.return_, 1) := by decide +kernel
theorem dX8_isNoMore_0 : decode cX8_isNoMore 0 = .ok (.lload_n 0, 1) := by decide +kernel
theorem dX8_isNoMore_1 : decode cX8_isNoMore 1 = .ok (.lconst 0, 1) := by decide +kernel
theorem dX8_isNoMore_2 : decode cX8_isNoMore 2 = .ok (.lcmp, 1) := by decide +kernel
theorem dX8_isNoMore_3 : decode cX8_isNoMore 3 = .ok (.ifCond .gt 11, 3) := by decide +kernel
theorem dX8_isNoMore_6 : decode cX8_isNoMore 6 = .ok (.lload_n 2, 1) := by decide +kernel
theorem dX8_isNoMore_7 : decode cX8_isNoMore 7 = .ok (.lconst 0, 1) := by decide +kernel
theorem dX8_isNoMore_8 : decode cX8_isNoMore 8 = .ok (.lcmp, 1) := by decide +kernel
theorem dX8_isNoMore_9 : decode cX8_isNoMore 9 = .ok (.ifCond .gt 5, 3) := by decide +kernel
theorem dX8_isNoMore_12 : decode cX8_isNoMore 12 = .ok (.iconst 1, 1) := by decide +kernel
theorem dX8_isNoMore_13 : decode cX8_isNoMore 13 = .ok (.ireturn, 1) := by decide +kernel
theorem dX8_isNoMore_14 : decode cX8_isNoMore 14 = .ok (.lload_n 0, 1) := by decide +kernel
theorem dX8_isNoMore_15 : decode cX8_isNoMore 15 = .ok (.lconst 0, 1) := by decide +kernel
theorem dX8_isNoMore_16 : decode cX8_isNoMore 16 = .ok (.lcmp, 1) := by decide +kernel
theorem dX8_isNoMore_17 : decode cX8_isNoMore 17 = .ok (.ifCond .le 11, 3) := by decide +kernel
theorem dX8_isNoMore_20 : decode cX8_isNoMore 20 = .ok (.lload_n 2, 1) := by decide +kernel
theorem dX8_isNoMore_21 : decode cX8_isNoMore 21 = .ok (.lconst 0, 1) := by decide +kernel
theorem dX8_isNoMore_22 : decode cX8_isNoMore 22 = .ok (.lcmp, 1) := by decide +kernel
theorem dX8_isNoMore_23 : decode cX8_isNoMore 23 = .ok (.ifCond .le 5, 3) := by decide +kernel
theorem dX8_isNoMore_26 : decode cX8_isNoMore 26 = .ok (.iconst 0, 1) := by decide +kernel
theorem dX8_isNoMore_27 : decode cX8_isNoMore 27 = .ok (.ireturn, 1) := by decide +kernel
theorem dX8_isNoMore_28 : decode cX8_isNoMore 28 = .ok (.lload_n 0, 1) := by decide +kernel
theorem dX8_isNoMore_29 : decode cX8_isNoMore 29 = .ok (.lconst 0, 1) := by decide +kernel
theorem dX8_isNoMore_30 : decode cX8_isNoMore 30 = .ok (.lcmp, 1) := by decide +kernel
theorem dX8_isNoMore_31 : decode cX8_isNoMore 31 = .ok (.ifCond .le 25, 3) := by decide +kernel
theorem dX8_isNoMore_34 : decode cX8_isNoMore 34 = .ok (.lload_n 0, 1) := by decide +kernel
theorem dX8_isNoMore_35 : decode cX8_isNoMore 35 = .ok (.lload_n 0, 1) := by decide +kernel
theorem dX8_isNoMore_36 : decode cX8_isNoMore 36 = .ok (.lmul, 1) := by decide +kernel
theorem dX8_isNoMore_37 : decode cX8_isNoMore 37 = .ok (.ldc2_w 78, 3) := by decide +kernel
theorem dX8_isNoMore_40 : decode cX8_isNoMore 40 = .ok (.lload_n 2, 1) := by decide +kernel
theorem dX8_isNoMore_41 : decode cX8_isNoMore 41 = .ok (.lmul, 1) := by decide +kernel
theorem dX8_isNoMore_42 : decode cX8_isNoMore 42 = .ok (.lload_n 2, 1) := by decide +kernel
theorem dX8_isNoMore_43 : decode cX8_isNoMore 43 = .ok (.lmul, 1) := by decide +kernel
theorem dX8_isNoMore_44 : decode cX8_isNoMore 44 = .ok (.lcmp, 1) := by decide +kernel
theorem dX8_isNoMore_45 : decode cX8_isNoMore 45 = .ok (.ifCond .gt 7, 3) := by decide +kernel
theorem dX8_isNoMore_48 : decode cX8_isNoMore 48 = .ok (.iconst 1, 1) := by decide +kernel
theorem dX8_isNoMore_49 : decode cX8_isNoMore 49 = .ok (.goto 26, 3) := by decide +kernel
theorem dX8_isNoMore_52 : decode cX8_isNoMore 52 = .ok (.iconst 0, 1) := by decide +kernel
theorem dX8_isNoMore_53 : decode cX8_isNoMore 53 = .ok (.goto 22, 3) := by decide +kernel
theorem dX8_isNoMore_56 : decode cX8_isNoMore 56 = .ok (.ldc2_w 78, 3) := by decide +kernel
theorem dX8_isNoMore_59 : decode cX8_isNoMore 59 = .ok (.lload_n 2, 1) := by decide +kernel
theorem dX8_isNoMore_60 : decode cX8_isNoMore 60 = .ok (.lmul, 1) := by decide +kernel
theorem dX8_isNoMore_61 : decode cX8_isNoMore 61 = .ok (.lload_n 2, 1) := by decide +kernel
theorem dX8_isNoMore_62 : decode cX8_isNoMore 62 = .ok (.lmul, 1) := by decide +kernel
theorem dX8_isNoMore_63 : decode cX8_isNoMore 63 = .ok (.lload_n 0, 1) := by decide +kernel
theorem dX8_isNoMore_64 : decode cX8_isNoMore 64 = .ok (.lload_n 0, 1) := by decide +kernel
theorem dX8_isNoMore_65 : decode cX8_isNoMore 65 = .ok (.lmul, 1) := by decide +kernel
theorem dX8_isNoMore_66 : decode cX8_isNoMore 66 = .ok (.lcmp, 1) := by decide +kernel
theorem dX8_isNoMore_67 : decode cX8_isNoMore 67 = .ok (.ifCond .gt 7, 3) := by decide +kernel
theorem dX8_isNoMore_70 : decode cX8_isNoMore 70 = .ok (.iconst 1, 1) := by decide +kernel
theorem dX8_isNoMore_71 : decode cX8_isNoMore 71 = .ok (.goto 4, 3) := by decide +kernel
theorem dX8_isNoMore_74 : decode cX8_isNoMore 74 = .ok (.iconst 0, 1) := by decide +kernel
theorem dX8_isNoMore_75 : decode cX8_isNoMore 75 = .ok (.ireturn, 1) := by decide +kernel
theorem dX8_isEvenNow_0 : decode cX8_isEvenNow 0 = .ok (.aload_n 0, 1) := by decide +kernel
theorem dX8_isEvenNow_1 : decode cX8_isEvenNow 1 = .ok (.invokevirtual 132, 3) := by decide +kernel
theorem dX8_isEvenNow_4 : decode cX8_isEvenNow 4 = .ok (.aload_n 0, 1) := by decide +kernel
theorem dX8_isEvenNow_5 : decode cX8_isEvenNow 5 = .ok (.getfield 123, 3) := by decide +kernel
theorem dX8_isEvenNow_8 : decode cX8_isEvenNow 8 = .ok (.ldc2_w 135, 3) := by decide +kernel
theorem dX8_isEvenNow_11 : decode cX8_isEvenNow 11 = .ok (.aload_n 0, 1) := by decide +kernel
theorem dX8_isEvenNow_12 : decode cX8_isEvenNow 12 = .ok (.getfield 25, 3) := by decide +kernel
theorem dX8_isEvenNow_15 : decode cX8_isEvenNow 15 = .ok (.i2l, 1) := by decide +kernel
theorem dX8_isEvenNow_16 : decode cX8_isEvenNow 16 = .ok (.lmul, 1) := by decide +kernel
theorem dX8_isEvenNow_17 : decode cX8_isEvenNow 17 = .ok (.aload_n 0, 1) := by decide +kernel
theorem dX8_isEvenNow_18 : decode cX8_isEvenNow 18 = .ok (.getfield 25, 3) := by decide +kernel
theorem dX8_isEvenNow_21 : decode cX8_isEvenNow 21 = .ok (.i2l, 1) := by decide +kernel
theorem dX8_isEvenNow_22 : decode cX8_isEvenNow 22 = .ok (.lmul, 1) := by decide +kernel
theorem dX8_isEvenNow_23 : decode cX8_isEvenNow 23 = .ok (.lsub, 1) := by decide +kernel
theorem dX8_isEvenNow_24 : decode cX8_isEvenNow 24 = .ok (.aload_n 0, 1) := by decide +kernel
theorem dX8_isEvenNow_25 : decode cX8_isEvenNow 25 = .ok (.getfield 129, 3) := by decide +kernel
theorem dX8_isEvenNow_28 : decode cX8_isEvenNow 28 = .ok (.invokestatic 137, 3) := by decide +kernel
theorem dX8_isEvenNow_31 : decode cX8_isEvenNow 31 = .ok (.ireturn, 1) := by decide +kernel
theorem dX8_isEven_0 : decode cX8_isEven 0 = .ok (.aload_n 0, 1) := by decide +kernel
theorem dX8_isEven_1 : decode cX8_isEven 1 = .ok (.invokevirtual 141, 3) := by decide +kernel
theorem dX8_isEven_4 : decode cX8_isEven 4 = .ok (.aload_n 0, 1) := by decide +kernel
theorem dX8_isEven_5 : decode cX8_isEven 5 = .ok (.invokevirtual 144, 3) := by decide +kernel
theorem dX8_isEven_8 : decode cX8_isEven 8 = .ok (.ireturn, 1) := by decide +kernel
theorem dX8_limit_0 : decode cX8_limit 0 = .ok (.iload_n 1, 1) := by decide +kernel
theorem dX8_limit_1 : decode cX8_limit 1 = .ok (.i2l, 1) := by decide +kernel
theorem dX8_limit_2 : decode cX8_limit 2 = .ok (.lconst 0, 1) := by decide +kernel
theorem dX8_limit_3 : decode cX8_limit 3 = .ok (.ldc2_w 148, 3) := by decide +kernel
theorem dX8_limit_6 : decode cX8_limit 6 = .ok (.invokestatic 72, 3) := by decide +kernel
theorem dX8_limit_9 : decode cX8_limit 9 = .ok (.ifCond .ne 5, 3) := by decide +kernel
theorem dX8_limit_12 : decode cX8_limit 12 = .ok (.iconst (-1), 1) := by decide +kernel
theorem dX8_limit_13 : decode cX8_limit 13 = .ok (.ireturn, 1) := by decide +kernel
theorem dX8_limit_14 : decode cX8_limit 14 = .ok (.aload_n 0, 1) := by decide +kernel
theorem dX8_limit_15 : decode cX8_limit 15 = .ok (.getfield 25, 3) := by decide +kernel
theorem dX8_limit_18 : decode cX8_limit 18 = .ok (.istore_n 2, 1) := by decide +kernel
theorem dX8_limit_19 : decode cX8_limit 19 = .ok (.aload_n 0, 1) := by decide +kernel
theorem dX8_limit_20 : decode cX8_limit 20 = .ok (.iload_n 1, 1) := by decide +kernel
theorem dX8_limit_21 : decode cX8_limit 21 = .ok (.putfield 25, 3) := by decide +kernel
theorem dX8_limit_24 : decode cX8_limit 24 = .ok (.aload_n 0, 1) := by decide +kernel
theorem dX8_limit_25 : decode cX8_limit 25 = .ok (.invokevirtual 150, 3) := by decide +kernel
theorem dX8_limit_28 : decode cX8_limit 28 = .ok (.ifCond .ne 11, 3) := by decide +kernel
theorem dX8_limit_31 : decode cX8_limit 31 = .ok (.aload_n 0, 1) := by decide +kernel
theorem dX8_limit_32 : decode cX8_limit 32 = .ok (.iload_n 2, 1) := by decide +kernel
theorem dX8_limit_33 : decode cX8_limit 33 = .ok (.putfield 25, 3) := by decide +kernel
theorem dX8_limit_36 : decode cX8_limit 36 = .ok (.bipush (-2), 2) := by decide +kernel
theorem dX8_limit_38 : decode cX8_limit 38 = .ok (.ireturn, 1) := by decide +kernel
theorem dX8_limit_39 : decode cX8_limit 39 = .ok (.iload_n 2, 1) := by decide +kernel
theorem dX8_limit_40 : decode cX8_limit 40 = .ok (.ireturn, 1) := by decide +kernel
theorem dX8_out_0 : decode cX8_out 0 = .ok (.iload_n 1, 1) := by decide +kernel
theorem dX8_out_1 : decode cX8_out 1 = .ok (.i2l, 1) := by decide +kernel
theorem dX8_out_2 : decode cX8_out 2 = .ok (.lconst 0, 1) := by decide +kernel
theorem dX8_out_3 : decode cX8_out 3 = .ok (.ldc2_w 153, 3) := by decide +kernel
theorem dX8_out_6 : decode cX8_out 6 = .ok (.invokestatic 72, 3) := by decide +kernel
theorem dX8_out_9 : decode cX8_out 9 = .ok (.ifCond .ne 6, 3) := by decide +kernel
theorem dX8_out_12 : decode cX8_out 12 = .ok (.ldc 155, 2) := by decide +kernel
theorem dX8_out_14 : decode cX8_out 14 = .ok (.ireturn, 1) := by decide +kernel
theorem dX8_out_15 : decode cX8_out 15 = .ok (.aload_n 0, 1) := by decide +kernel
theorem dX8_out_16 : decode cX8_out 16 = .ok (.invokevirtual 141, 3) := by decide +kernel
theorem dX8_out_19 : decode cX8_out 19 = .ok (.aload_n 0, 1) := by decide +kernel
theorem dX8_out_20 : decode cX8_out 20 = .ok (.invokevirtual 132, 3) := by decide +kernel
theorem dX8_out_23 : decode cX8_out 23 = .ok (.iload_n 1, 1) := by decide +kernel
theorem dX8_out_24 : decode cX8_out 24 = .ok (.ifCond .ne 10, 3) := by decide +kernel
theorem dX8_out_27 : decode cX8_out 27 = .ok (.aload_n 0, 1) := by decide +kernel
theorem dX8_out_28 : decode cX8_out 28 = .ok (.getfield 107, 3) := by decide +kernel
theorem dX8_out_31 : decode cX8_out 31 = .ok (.goto 56, 3) := by decide +kernel
theorem dX8_out_34 : decode cX8_out 34 = .ok (.iload_n 1, 1) := by decide +kernel
theorem dX8_out_35 : decode cX8_out 35 = .ok (.iconst 1, 1) := by decide +kernel
theorem dX8_out_36 : decode cX8_out 36 = .ok (.if_icmp .ne 10, 3) := by decide +kernel
theorem dX8_out_39 : decode cX8_out 39 = .ok (.aload_n 0, 1) := by decide +kernel
theorem dX8_out_40 : decode cX8_out 40 = .ok (.getfield 110, 3) := by decide +kernel
theorem dX8_out_43 : decode cX8_out 43 = .ok (.goto 44, 3) := by decide +kernel
theorem dX8_out_46 : decode cX8_out 46 = .ok (.iload_n 1, 1) := by decide +kernel
theorem dX8_out_47 : decode cX8_out 47 = .ok (.iconst 2, 1) := by decide +kernel
theorem dX8_out_48 : decode cX8_out 48 = .ok (.if_icmp .ne 10, 3) := by decide +kernel
theorem dX8_out_51 : decode cX8_out 51 = .ok (.aload_n 0, 1) := by decide +kernel
theorem dX8_out_52 : decode cX8_out 52 = .ok (.getfield 113, 3) := by decide +kernel
theorem dX8_out_55 : decode cX8_out 55 = .ok (.goto 32, 3) := by decide +kernel
theorem dX8_out_58 : decode cX8_out 58 = .ok (.iload_n 1, 1) := by decide +kernel
theorem dX8_out_59 : decode cX8_out 59 = .ok (.iconst 3, 1) := by decide +kernel
theorem dX8_out_60 : decode cX8_out 60 = .ok (.if_icmp .ne 10, 3) := by decide +kernel
theorem dX8_out_63 : decode cX8_out 63 = .ok (.aload_n 0, 1) := by decide +kernel
theorem dX8_out_64 : decode cX8_out 64 = .ok (.getfield 116, 3) := by decide +kernel
theorem dX8_out_67 : decode cX8_out 67 = .ok (.goto 20, 3) := by decide +kernel
theorem dX8_out_70 : decode cX8_out 70 = .ok (.iload_n 1, 1) := by decide +kernel
theorem dX8_out_71 : decode cX8_out 71 = .ok (.iconst 4, 1) := by decide +kernel
theorem dX8_out_72 : decode cX8_out 72 = .ok (.if_icmp .ne 10, 3) := by decide +kernel
theorem dX8_out_75 : decode cX8_out 75 = .ok (.aload_n 0, 1) := by decide +kernel
theorem dX8_out_76 : decode cX8_out 76 = .ok (.getfield 123, 3) := by decide +kernel
theorem dX8_out_79 : decode cX8_out 79 = .ok (.goto 7, 3) := by decide +kernel
theorem dX8_out_82 : decode cX8_out 82 = .ok (.aload_n 0, 1) := by decide +kernel
theorem dX8_out_83 : decode cX8_out 83 = .ok (.getfield 129, 3) := by decide +kernel
theorem dX8_out_86 : decode cX8_out 86 = .ok (.l2i, 1) := by decide +kernel
theorem dX8_out_87 : decode cX8_out 87 = .ok (.ireturn, 1) := by decide +kernel
theorem dX8_count_0 : decode cX8_count 0 = .ok (.iconst 0, 1) := by decide +kernel
theorem dX8_count_1 : decode cX8_count 1 = .ok (.istore_n 2, 1) := by decide +kernel
theorem dX8_count_2 : decode cX8_count 2 = .ok (.iconst 0, 1) := by decide +kernel
theorem dX8_count_3 : decode cX8_count 3 = .ok (.istore_n 3, 1) := by decide +kernel
theorem dX8_count_4 : decode cX8_count 4 = .ok (.iload_n 3, 1) := by decide +kernel
theorem dX8_count_5 : decode cX8_count 5 = .ok (.bipush 12, 2) := by decide +kernel
theorem dX8_count_7 : decode cX8_count 7 = .ok (.if_icmp .ge 18, 3) := by decide +kernel
theorem dX8_count_10 : decode cX8_count 10 = .ok (.iload_n 2, 1) := by decide +kernel
theorem dX8_count_11 : decode cX8_count 11 = .ok (.aload_n 0, 1) := by decide +kernel
theorem dX8_count_12 : decode cX8_count 12 = .ok (.getfield 22, 3) := by decide +kernel
theorem dX8_count_15 : decode cX8_count 15 = .ok (.iload_n 3, 1) := by decide +kernel
theorem dX8_count_16 : decode cX8_count 16 = .ok (.iaload, 1) := by decide +kernel
theorem dX8_count_17 : decode cX8_count 17 = .ok (.iadd, 1) := by decide +kernel
theorem dX8_count_18 : decode cX8_count 18 = .ok (.istore_n 2, 1) := by decide +kernel
theorem dX8_count_19 : decode cX8_count 19 = .ok (.iinc 3 1, 3) := by decide +kernel
theorem dX8_count_22 : decode cX8_count 22 = .ok (.goto (-18), 3) := by decide +kernel
theorem dX8_count_25 : decode cX8_count 25 = .ok (.iconst 0, 1) := by decide +kernel
theorem dX8_count_26 : decode cX8_count 26 = .ok (.istore_n 3, 1) := by decide +kernel
theorem dX8_count_27 : decode cX8_count 27 = .ok (.iconst 0, 1) := by decide +kernel
theorem dX8_count_28 : decode cX8_count 28 = .ok (.istore 4, 2) := by decide +kernel
theorem dX8_count_30 : decode cX8_count 30 = .ok (.iload 4, 2) := by decide +kernel
theorem dX8_count_32 : decode cX8_count 32 = .ok (.aload_n 0, 1) := by decide +kernel
theorem dX8_count_33 : decode cX8_count 33 = .ok (.getfield 69, 3) := by decide +kernel
theorem dX8_count_36 : decode cX8_count 36 = .ok (.if_icmp .ge 32, 3) := by decide +kernel
theorem dX8_count_39 : decode cX8_count 39 = .ok (.iload_n 3, 1) := by decide +kernel
theorem dX8_count_40 : decode cX8_count 40 = .ok (.aload_n 0, 1) := by decide +kernel
theorem dX8_count_41 : decode cX8_count 41 = .ok (.getfield 16, 3) := by decide +kernel
theorem dX8_count_44 : decode cX8_count 44 = .ok (.iload 4, 2) := by decide +kernel
theorem dX8_count_46 : decode cX8_count 46 = .ok (.iaload, 1) := by decide +kernel
theorem dX8_count_47 : decode cX8_count 47 = .ok (.bipush 12, 2) := by decide +kernel
theorem dX8_count_49 : decode cX8_count 49 = .ok (.if_icmp .ge 10, 3) := by decide +kernel
theorem dX8_count_52 : decode cX8_count 52 = .ok (.iconst 1, 1) := by decide +kernel
theorem dX8_count_53 : decode cX8_count 53 = .ok (.iload 4, 2) := by decide +kernel
theorem dX8_count_55 : decode cX8_count 55 = .ok (.ishl, 1) := by decide +kernel
theorem dX8_count_56 : decode cX8_count 56 = .ok (.goto 4, 3) := by decide +kernel
theorem dX8_count_59 : decode cX8_count 59 = .ok (.iconst 0, 1) := by decide +kernel
theorem dX8_count_60 : decode cX8_count 60 = .ok (.ior, 1) := by decide +kernel
theorem dX8_count_61 : decode cX8_count 61 = .ok (.istore_n 3, 1) := by decide +kernel
theorem dX8_count_62 : decode cX8_count 62 = .ok (.iinc 4 1, 3) := by decide +kernel
theorem dX8_count_65 : decode cX8_count 65 = .ok (.goto (-35), 3) := by decide +kernel
theorem dX8_count_68 : decode cX8_count 68 = .ok (.iload_n 1, 1) := by decide +kernel
theorem dX8_count_69 : decode cX8_count 69 = .ok (.tableswitch 76 0 6 #[43, 48, 53, 58, 65, 67, 74], 43) := by decide +kernel
theorem dX8_count_112 : decode cX8_count 112 = .ok (.aload_n 0, 1) := by decide +kernel
theorem dX8_count_113 : decode cX8_count 113 = .ok (.getfield 69, 3) := by decide +kernel
theorem dX8_count_116 : decode cX8_count 116 = .ok (.ireturn, 1) := by decide +kernel
theorem dX8_count_117 : decode cX8_count 117 = .ok (.aload_n 0, 1) := by decide +kernel
theorem dX8_count_118 : decode cX8_count 118 = .ok (.getfield 156, 3) := by decide +kernel
theorem dX8_count_121 : decode cX8_count 121 = .ok (.ireturn, 1) := by decide +kernel
theorem dX8_count_122 : decode cX8_count 122 = .ok (.aload_n 0, 1) := by decide +kernel
theorem dX8_count_123 : decode cX8_count 123 = .ok (.getfield 159, 3) := by decide +kernel
theorem dX8_count_126 : decode cX8_count 126 = .ok (.ireturn, 1) := by decide +kernel
theorem dX8_count_127 : decode cX8_count 127 = .ok (.aload_n 0, 1) := by decide +kernel
theorem dX8_count_128 : decode cX8_count 128 = .ok (.bipush 12, 2) := by decide +kernel
theorem dX8_count_130 : decode cX8_count 130 = .ok (.invokevirtual 101, 3) := by decide +kernel
theorem dX8_count_133 : decode cX8_count 133 = .ok (.ireturn, 1) := by decide +kernel
theorem dX8_count_134 : decode cX8_count 134 = .ok (.iload_n 3, 1) := by decide +kernel
theorem dX8_count_135 : decode cX8_count 135 = .ok (.ireturn, 1) := by decide +kernel
theorem dX8_count_136 : decode cX8_count 136 = .ok (.aload_n 0, 1) := by decide +kernel
theorem dX8_count_137 : decode cX8_count 137 = .ok (.bipush 13, 2) := by decide +kernel
theorem dX8_count_139 : decode cX8_count 139 = .ok (.invokevirtual 101, 3) := by decide +kernel
theorem dX8_count_142 : decode cX8_count 142 = .ok (.ireturn, 1) := by decide +kernel
theorem dX8_count_143 : decode cX8_count 143 = .ok (.iload_n 2, 1) := by decide +kernel
theorem dX8_count_144 : decode cX8_count 144 = .ok (.ireturn, 1) := by decide +kernel
theorem dX8_count_145 : decode cX8_count 145 = .ok (.iconst (-1), 1) := by decide +kernel
theorem dX8_count_146 : decode cX8_count 146 = .ok (.ireturn, 1) := by decide +kernel
theorem dX8_type_0 : decode cX8_type 0 = .ok (.iload_n 3, 1) := by decide +kernel
theorem dX8_type_1 : decode cX8_type 1 = .ok (.i2l, 1) := by decide +kernel
theorem dX8_type_2 : decode cX8_type 2 = .ok (.lconst 1, 1) := by decide +kernel
theorem dX8_type_3 : decode cX8_type 3 = .ok (.ldc2_w 162, 3) := by decide +kernel
theorem dX8_type_6 : decode cX8_type 6 = .ok (.invokestatic 72, 3) := by decide +kernel
theorem dX8_type_9 : decode cX8_type 9 = .ok (.ifCond .ne 5, 3) := by decide +kernel
theorem dX8_type_12 : decode cX8_type 12 = .ok (.iconst (-1), 1) := by decide +kernel
theorem dX8_type_13 : decode cX8_type 13 = .ok (.ireturn, 1) := by decide +kernel
theorem dX8_type_14 : decode cX8_type 14 = .ok (.iload_n 3, 1) := by decide +kernel
theorem dX8_type_15 : decode cX8_type 15 = .ok (.iconst 1, 1) := by decide +kernel
theorem dX8_type_16 : decode cX8_type 16 = .ok (.isub, 1) := by decide +kernel
theorem dX8_type_17 : decode cX8_type 17 = .ok (.istore 4, 2) := by decide +kernel
theorem dX8_type_19 : decode cX8_type 19 = .ok (.iload 4, 2) := by decide +kernel
theorem dX8_type_21 : decode cX8_type 21 = .ok (.ifCond .lt 34, 3) := by decide +kernel
theorem dX8_type_24 : decode cX8_type 24 = .ok (.lload_n 1, 1) := by decide +kernel
theorem dX8_type_25 : decode cX8_type 25 = .ok (.bipush 8, 2) := by decide +kernel
theorem dX8_type_27 : decode cX8_type 27 = .ok (.iload 4, 2) := by decide +kernel
theorem dX8_type_29 : decode cX8_type 29 = .ok (.imul, 1) := by decide +kernel
theorem dX8_type_30 : decode cX8_type 30 = .ok (.lshr, 1) := by decide +kernel
theorem dX8_type_31 : decode cX8_type 31 = .ok (.ldc2_w 164, 3) := by decide +kernel
theorem dX8_type_34 : decode cX8_type 34 = .ok (.land, 1) := by decide +kernel
theorem dX8_type_35 : decode cX8_type 35 = .ok (.ldc2_w 166, 3) := by decide +kernel
theorem dX8_type_38 : decode cX8_type 38 = .ok (.ldc2_w 168, 3) := by decide +kernel
theorem dX8_type_41 : decode cX8_type 41 = .ok (.invokestatic 72, 3) := by decide +kernel
theorem dX8_type_44 : decode cX8_type 44 = .ok (.ifCond .ne 5, 3) := by decide +kernel
theorem dX8_type_47 : decode cX8_type 47 = .ok (.iconst (-1), 1) := by decide +kernel
theorem dX8_type_48 : decode cX8_type 48 = .ok (.ireturn, 1) := by decide +kernel
theorem dX8_type_49 : decode cX8_type 49 = .ok (.iinc 4 (-1), 3) := by decide +kernel
theorem dX8_type_52 : decode cX8_type 52 = .ok (.goto (-33), 3) := by decide +kernel
theorem dX8_type_55 : decode cX8_type 55 = .ok (.aload_n 0, 1) := by decide +kernel
theorem dX8_type_56 : decode cX8_type 56 = .ok (.getfield 170, 3) := by decide +kernel
theorem dX8_type_59 : decode cX8_type 59 = .ok (.iload_n 3, 1) := by decide +kernel
theorem dX8_type_60 : decode cX8_type 60 = .ok (.iadd, 1) := by decide +kernel
theorem dX8_type_61 : decode cX8_type 61 = .ok (.bipush 120, 2) := by decide +kernel
theorem dX8_type_63 : decode cX8_type 63 = .ok (.if_icmp .le 6, 3) := by decide +kernel
theorem dX8_type_66 : decode cX8_type 66 = .ok (.bipush (-3), 2) := by decide +kernel
theorem dX8_type_68 : decode cX8_type 68 = .ok (.ireturn, 1) := by decide +kernel
theorem dX8_type_69 : decode cX8_type 69 = .ok (.iload_n 3, 1) := by decide +kernel
theorem dX8_type_70 : decode cX8_type 70 = .ok (.iconst 1, 1) := by decide +kernel
theorem dX8_type_71 : decode cX8_type 71 = .ok (.isub, 1) := by decide +kernel
theorem dX8_type_72 : decode cX8_type 72 = .ok (.istore 4, 2) := by decide +kernel
theorem dX8_type_74 : decode cX8_type 74 = .ok (.iload 4, 2) := by decide +kernel
theorem dX8_type_76 : decode cX8_type 76 = .ok (.ifCond .lt 40, 3) := by decide +kernel
theorem dX8_type_79 : decode cX8_type 79 = .ok (.aload_n 0, 1) := by decide +kernel
theorem dX8_type_80 : decode cX8_type 80 = .ok (.getfield 32, 3) := by decide +kernel
theorem dX8_type_83 : decode cX8_type 83 = .ok (.aload_n 0, 1) := by decide +kernel
theorem dX8_type_84 : decode cX8_type 84 = .ok (.getfield 170, 3) := by decide +kernel
theorem dX8_type_87 : decode cX8_type 87 = .ok (.lload_n 1, 1) := by decide +kernel
theorem dX8_type_88 : decode cX8_type 88 = .ok (.bipush 8, 2) := by decide +kernel
theorem dX8_type_90 : decode cX8_type 90 = .ok (.iload 4, 2) := by decide +kernel
theorem dX8_type_92 : decode cX8_type 92 = .ok (.imul, 1) := by decide +kernel
theorem dX8_type_93 : decode cX8_type 93 = .ok (.lshr, 1) := by decide +kernel
theorem dX8_type_94 : decode cX8_type 94 = .ok (.ldc2_w 164, 3) := by decide +kernel
theorem dX8_type_97 : decode cX8_type 97 = .ok (.land, 1) := by decide +kernel
theorem dX8_type_98 : decode cX8_type 98 = .ok (.l2i, 1) := by decide +kernel
theorem dX8_type_99 : decode cX8_type 99 = .ok (.iastore, 1) := by decide +kernel
theorem dX8_type_100 : decode cX8_type 100 = .ok (.aload_n 0, 1) := by decide +kernel
theorem dX8_type_101 : decode cX8_type 101 = .ok (.dup, 1) := by decide +kernel
theorem dX8_type_102 : decode cX8_type 102 = .ok (.getfield 170, 3) := by decide +kernel
theorem dX8_type_105 : decode cX8_type 105 = .ok (.iconst 1, 1) := by decide +kernel
theorem dX8_type_106 : decode cX8_type 106 = .ok (.iadd, 1) := by decide +kernel
theorem dX8_type_107 : decode cX8_type 107 = .ok (.putfield 170, 3) := by decide +kernel
theorem dX8_type_110 : decode cX8_type 110 = .ok (.iinc 4 (-1), 3) := by decide +kernel
theorem dX8_type_113 : decode cX8_type 113 = .ok (.goto (-39), 3) := by decide +kernel
theorem dX8_type_116 : decode cX8_type 116 = .ok (.aload_n 0, 1) := by decide +kernel
theorem dX8_type_117 : decode cX8_type 117 = .ok (.getfield 170, 3) := by decide +kernel
theorem dX8_type_120 : decode cX8_type 120 = .ok (.ireturn, 1) := by decide +kernel
theorem dX8_nextByte_0 : decode cX8_nextByte 0 = .ok (.aload_n 0, 1) := by decide +kernel
theorem dX8_nextByte_1 : decode cX8_nextByte 1 = .ok (.getfield 173, 3) := by decide +kernel
theorem dX8_nextByte_4 : decode cX8_nextByte 4 = .ok (.aload_n 0, 1) := by decide +kernel
theorem dX8_nextByte_5 : decode cX8_nextByte 5 = .ok (.getfield 170, 3) := by decide +kernel
theorem dX8_nextByte_8 : decode cX8_nextByte 8 = .ok (.if_icmp .ge 30, 3) := by decide +kernel
theorem dX8_nextByte_11 : decode cX8_nextByte 11 = .ok (.aload_n 0, 1) := by decide +kernel
theorem dX8_nextByte_12 : decode cX8_nextByte 12 = .ok (.getfield 32, 3) := by decide +kernel
theorem dX8_nextByte_15 : decode cX8_nextByte 15 = .ok (.aload_n 0, 1) := by decide +kernel
theorem dX8_nextByte_16 : decode cX8_nextByte 16 = .ok (.getfield 173, 3) := by decide +kernel
theorem dX8_nextByte_19 : decode cX8_nextByte 19 = .ok (.iaload, 1) := by decide +kernel
theorem dX8_nextByte_20 : decode cX8_nextByte 20 = .ok (.bipush 32, 2) := by decide +kernel
theorem dX8_nextByte_22 : decode cX8_nextByte 22 = .ok (.if_icmp .ne 16, 3) := by decide +kernel
theorem dX8_nextByte_25 : decode cX8_nextByte 25 = .ok (.aload_n 0, 1) := by decide +kernel
theorem dX8_nextByte_26 : decode cX8_nextByte 26 = .ok (.dup, 1) := by decide +kernel
theorem dX8_nextByte_27 : decode cX8_nextByte 27 = .ok (.getfield 173, 3) := by decide +kernel
theorem dX8_nextByte_30 : decode cX8_nextByte 30 = .ok (.iconst 1, 1) := by decide +kernel
theorem dX8_nextByte_31 : decode cX8_nextByte 31 = .ok (.iadd, 1) := by decide +kernel
theorem dX8_nextByte_32 : decode cX8_nextByte 32 = .ok (.putfield 173, 3) := by decide +kernel
theorem dX8_nextByte_35 : decode cX8_nextByte 35 = .ok (.goto (-35), 3) := by decide +kernel
theorem dX8_nextByte_38 : decode cX8_nextByte 38 = .ok (.aload_n 0, 1) := by decide +kernel
theorem dX8_nextByte_39 : decode cX8_nextByte 39 = .ok (.getfield 173, 3) := by decide +kernel
theorem dX8_nextByte_42 : decode cX8_nextByte 42 = .ok (.aload_n 0, 1) := by decide +kernel
theorem dX8_nextByte_43 : decode cX8_nextByte 43 = .ok (.getfield 170, 3) := by decide +kernel
theorem dX8_nextByte_46 : decode cX8_nextByte 46 = .ok (.if_icmp .ge 15, 3) := by decide +kernel
theorem dX8_nextByte_49 : decode cX8_nextByte 49 = .ok (.aload_n 0, 1) := by decide +kernel
theorem dX8_nextByte_50 : decode cX8_nextByte 50 = .ok (.getfield 32, 3) := by decide +kernel
theorem dX8_nextByte_53 : decode cX8_nextByte 53 = .ok (.aload_n 0, 1) := by decide +kernel
theorem dX8_nextByte_54 : decode cX8_nextByte 54 = .ok (.getfield 173, 3) := by decide +kernel
theorem dX8_nextByte_57 : decode cX8_nextByte 57 = .ok (.iaload, 1) := by decide +kernel
theorem dX8_nextByte_58 : decode cX8_nextByte 58 = .ok (.goto 4, 3) := by decide +kernel
theorem dX8_nextByte_61 : decode cX8_nextByte 61 = .ok (.iconst (-1), 1) := by decide +kernel
theorem dX8_nextByte_62 : decode cX8_nextByte 62 = .ok (.ireturn, 1) := by decide +kernel
theorem dX8_readNumber_0 : decode cX8_readNumber 0 = .ok (.aload_n 0, 1) := by decide +kernel
theorem dX8_readNumber_1 : decode cX8_readNumber 1 = .ok (.invokevirtual 176, 3) := by decide +kernel
theorem dX8_readNumber_4 : decode cX8_readNumber 4 = .ok (.pop, 1) := by decide +kernel
theorem dX8_readNumber_5 : decode cX8_readNumber 5 = .ok (.aload_n 0, 1) := by decide +kernel
theorem dX8_readNumber_6 : decode cX8_readNumber 6 = .ok (.getfield 173, 3) := by decide +kernel
theorem dX8_readNumber_9 : decode cX8_readNumber 9 = .ok (.istore_n 3, 1) := by decide +kernel
theorem dX8_readNumber_10 : decode cX8_readNumber 10 = .ok (.iconst 0, 1) := by decide +kernel
theorem dX8_readNumber_11 : decode cX8_readNumber 11 = .ok (.istore 4, 2) := by decide +kernel
theorem dX8_readNumber_13 : decode cX8_readNumber 13 = .ok (.aload_n 0, 1) := by decide +kernel
theorem dX8_readNumber_14 : decode cX8_readNumber 14 = .ok (.getfield 173, 3) := by decide +kernel
theorem dX8_readNumber_17 : decode cX8_readNumber 17 = .ok (.aload_n 0, 1) := by decide +kernel
theorem dX8_readNumber_18 : decode cX8_readNumber 18 = .ok (.getfield 170, 3) := by decide +kernel
theorem dX8_readNumber_21 : decode cX8_readNumber 21 = .ok (.if_icmp .ge 71, 3) := by decide +kernel
theorem dX8_readNumber_24 : decode cX8_readNumber 24 = .ok (.aload_n 0, 1) := by decide +kernel
theorem dX8_readNumber_25 : decode cX8_readNumber 25 = .ok (.getfield 32, 3) := by decide +kernel
theorem dX8_readNumber_28 : decode cX8_readNumber 28 = .ok (.aload_n 0, 1) := by decide +kernel
theorem dX8_readNumber_29 : decode cX8_readNumber 29 = .ok (.getfield 173, 3) := by decide +kernel
theorem dX8_readNumber_32 : decode cX8_readNumber 32 = .ok (.iaload, 1) := by decide +kernel
theorem dX8_readNumber_33 : decode cX8_readNumber 33 = .ok (.i2l, 1) := by decide +kernel
theorem dX8_readNumber_34 : decode cX8_readNumber 34 = .ok (.ldc2_w 180, 3) := by decide +kernel
theorem dX8_readNumber_37 : decode cX8_readNumber 37 = .ok (.ldc2_w 182, 3) := by decide +kernel
theorem dX8_readNumber_40 : decode cX8_readNumber 40 = .ok (.invokestatic 72, 3) := by decide +kernel
theorem dX8_readNumber_43 : decode cX8_readNumber 43 = .ok (.ifCond .eq 49, 3) := by decide +kernel
theorem dX8_readNumber_46 : decode cX8_readNumber 46 = .ok (.iload 4, 2) := by decide +kernel
theorem dX8_readNumber_48 : decode cX8_readNumber 48 = .ok (.sipush 999, 3) := by decide +kernel
theorem dX8_readNumber_51 : decode cX8_readNumber 51 = .ok (.if_icmp .le 8, 3) := by decide +kernel
theorem dX8_readNumber_54 : decode cX8_readNumber 54 = .ok (.iload 4, 2) := by decide +kernel
theorem dX8_readNumber_56 : decode cX8_readNumber 56 = .ok (.goto 21, 3) := by decide +kernel
theorem dX8_readNumber_59 : decode cX8_readNumber 59 = .ok (.bipush 10, 2) := by decide +kernel
theorem dX8_readNumber_61 : decode cX8_readNumber 61 = .ok (.iload 4, 2) := by decide +kernel
theorem dX8_readNumber_63 : decode cX8_readNumber 63 = .ok (.imul, 1) := by decide +kernel
theorem dX8_readNumber_64 : decode cX8_readNumber 64 = .ok (.aload_n 0, 1) := by decide +kernel
theorem dX8_readNumber_65 : decode cX8_readNumber 65 = .ok (.getfield 32, 3) := by decide +kernel
theorem dX8_readNumber_68 : decode cX8_readNumber 68 = .ok (.aload_n 0, 1) := by decide +kernel
theorem dX8_readNumber_69 : decode cX8_readNumber 69 = .ok (.getfield 173, 3) := by decide +kernel
theorem dX8_readNumber_72 : decode cX8_readNumber 72 = .ok (.iaload, 1) := by decide +kernel
theorem dX8_readNumber_73 : decode cX8_readNumber 73 = .ok (.iadd, 1) := by decide +kernel
theorem dX8_readNumber_74 : decode cX8_readNumber 74 = .ok (.bipush 48, 2) := by decide +kernel
theorem dX8_readNumber_76 : decode cX8_readNumber 76 = .ok (.isub, 1) := by decide +kernel
theorem dX8_readNumber_77 : decode cX8_readNumber 77 = .ok (.istore 4, 2) := by decide +kernel
theorem dX8_readNumber_79 : decode cX8_readNumber 79 = .ok (.aload_n 0, 1) := by decide +kernel
theorem dX8_readNumber_80 : decode cX8_readNumber 80 = .ok (.dup, 1) := by decide +kernel
theorem dX8_readNumber_81 : decode cX8_readNumber 81 = .ok (.getfield 173, 3) := by decide +kernel
theorem dX8_readNumber_84 : decode cX8_readNumber 84 = .ok (.iconst 1, 1) := by decide +kernel
theorem dX8_readNumber_85 : decode cX8_readNumber 85 = .ok (.iadd, 1) := by decide +kernel
theorem dX8_readNumber_86 : decode cX8_readNumber 86 = .ok (.putfield 173, 3) := by decide +kernel
theorem dX8_readNumber_89 : decode cX8_readNumber 89 = .ok (.goto (-76), 3) := by decide +kernel
theorem dX8_readNumber_92 : decode cX8_readNumber 92 = .ok (.aload_n 0, 1) := by decide +kernel
theorem dX8_readNumber_93 : decode cX8_readNumber 93 = .ok (.getfield 173, 3) := by decide +kernel
theorem dX8_readNumber_96 : decode cX8_readNumber 96 = .ok (.iload_n 3, 1) := by decide +kernel
theorem dX8_readNumber_97 : decode cX8_readNumber 97 = .ok (.if_icmp .ne 5, 3) := by decide +kernel
theorem dX8_readNumber_100 : decode cX8_readNumber 100 = .ok (.iconst (-1), 1) := by decide +kernel
theorem dX8_readNumber_101 : decode cX8_readNumber 101 = .ok (.ireturn, 1) := by decide +kernel
theorem dX8_readNumber_102 : decode cX8_readNumber 102 = .ok (.iload 4, 2) := by decide +kernel
theorem dX8_readNumber_104 : decode cX8_readNumber 104 = .ok (.i2l, 1) := by decide +kernel
theorem dX8_readNumber_105 : decode cX8_readNumber 105 = .ok (.iload_n 1, 1) := by decide +kernel
theorem dX8_readNumber_106 : decode cX8_readNumber 106 = .ok (.i2l, 1) := by decide +kernel
theorem dX8_readNumber_107 : decode cX8_readNumber 107 = .ok (.iload_n 2, 1) := by decide +kernel
theorem dX8_readNumber_108 : decode cX8_readNumber 108 = .ok (.i2l, 1) := by decide +kernel
theorem dX8_readNumber_109 : decode cX8_readNumber 109 = .ok (.invokestatic 72, 3) := by decide +kernel
theorem dX8_readNumber_112 : decode cX8_readNumber 112 = .ok (.ifCond .ne 10, 3) := by decide +kernel
theorem dX8_readNumber_115 : decode cX8_readNumber 115 = .ok (.aload_n 0, 1) := by decide +kernel
theorem dX8_readNumber_116 : decode cX8_readNumber 116 = .ok (.iload_n 3, 1) := by decide +kernel
theorem dX8_readNumber_117 : decode cX8_readNumber 117 = .ok (.putfield 173, 3) := by decide +kernel
theorem dX8_readNumber_120 : decode cX8_readNumber 120 = .ok (.iconst (-1), 1) := by decide +kernel
theorem dX8_readNumber_121 : decode cX8_readNumber 121 = .ok (.ireturn, 1) := by decide +kernel
theorem dX8_readNumber_122 : decode cX8_readNumber 122 = .ok (.iload 4, 2) := by decide +kernel
theorem dX8_readNumber_124 : decode cX8_readNumber 124 = .ok (.ireturn, 1) := by decide +kernel
theorem dX8_readOne_0 : decode cX8_readOne 0 = .ok (.aload_n 0, 1) := by decide +kernel
theorem dX8_readOne_1 : decode cX8_readOne 1 = .ok (.invokevirtual 176, 3) := by decide +kernel
theorem dX8_readOne_4 : decode cX8_readOne 4 = .ok (.istore_n 2, 1) := by decide +kernel
theorem dX8_readOne_5 : decode cX8_readOne 5 = .ok (.aload_n 0, 1) := by decide +kernel
theorem dX8_readOne_6 : decode cX8_readOne 6 = .ok (.getfield 35, 3) := by decide +kernel
theorem dX8_readOne_9 : decode cX8_readOne 9 = .ok (.iload_n 1, 1) := by decide +kernel
theorem dX8_readOne_10 : decode cX8_readOne 10 = .ok (.iload_n 2, 1) := by decide +kernel
theorem dX8_readOne_11 : decode cX8_readOne 11 = .ok (.bipush 103, 2) := by decide +kernel
theorem dX8_readOne_13 : decode cX8_readOne 13 = .ok (.if_icmp .ne 7, 3) := by decide +kernel
theorem dX8_readOne_16 : decode cX8_readOne 16 = .ok (.iconst 0, 1) := by decide +kernel
theorem dX8_readOne_17 : decode cX8_readOne 17 = .ok (.goto 34, 3) := by decide +kernel
theorem dX8_readOne_20 : decode cX8_readOne 20 = .ok (.iload_n 2, 1) := by decide +kernel
theorem dX8_readOne_21 : decode cX8_readOne 21 = .ok (.bipush 99, 2) := by decide +kernel
theorem dX8_readOne_23 : decode cX8_readOne 23 = .ok (.if_icmp .ne 7, 3) := by decide +kernel
theorem dX8_readOne_26 : decode cX8_readOne 26 = .ok (.iconst 1, 1) := by decide +kernel
theorem dX8_readOne_27 : decode cX8_readOne 27 = .ok (.goto 24, 3) := by decide +kernel
theorem dX8_readOne_30 : decode cX8_readOne 30 = .ok (.iload_n 2, 1) := by decide +kernel
theorem dX8_readOne_31 : decode cX8_readOne 31 = .ok (.bipush 115, 2) := by decide +kernel
theorem dX8_readOne_33 : decode cX8_readOne 33 = .ok (.if_icmp .ne 7, 3) := by decide +kernel
theorem dX8_readOne_36 : decode cX8_readOne 36 = .ok (.iconst 2, 1) := by decide +kernel
theorem dX8_readOne_37 : decode cX8_readOne 37 = .ok (.goto 14, 3) := by decide +kernel
theorem dX8_readOne_40 : decode cX8_readOne 40 = .ok (.iload_n 2, 1) := by decide +kernel
theorem dX8_readOne_41 : decode cX8_readOne 41 = .ok (.bipush 98, 2) := by decide +kernel
theorem dX8_readOne_43 : decode cX8_readOne 43 = .ok (.if_icmp .ne 7, 3) := by decide +kernel
theorem dX8_readOne_46 : decode cX8_readOne 46 = .ok (.iconst 3, 1) := by decide +kernel
theorem dX8_readOne_47 : decode cX8_readOne 47 = .ok (.goto 4, 3) := by decide +kernel
theorem dX8_readOne_50 : decode cX8_readOne 50 = .ok (.iconst (-1), 1) := by decide +kernel
theorem dX8_readOne_51 : decode cX8_readOne 51 = .ok (.iastore, 1) := by decide +kernel
theorem dX8_readOne_52 : decode cX8_readOne 52 = .ok (.aload_n 0, 1) := by decide +kernel
theorem dX8_readOne_53 : decode cX8_readOne 53 = .ok (.getfield 35, 3) := by decide +kernel
theorem dX8_readOne_56 : decode cX8_readOne 56 = .ok (.iload_n 1, 1) := by decide +kernel
theorem dX8_readOne_57 : decode cX8_readOne 57 = .ok (.iaload, 1) := by decide +kernel
theorem dX8_readOne_58 : decode cX8_readOne 58 = .ok (.ifCond .ge 5, 3) := by decide +kernel
theorem dX8_readOne_61 : decode cX8_readOne 61 = .ok (.iconst 0, 1) := by decide +kernel
theorem dX8_readOne_62 : decode cX8_readOne 62 = .ok (.ireturn, 1) := by decide +kernel
theorem dX8_readOne_63 : decode cX8_readOne 63 = .ok (.aload_n 0, 1) := by decide +kernel
theorem dX8_readOne_64 : decode cX8_readOne 64 = .ok (.dup, 1) := by decide +kernel
theorem dX8_readOne_65 : decode cX8_readOne 65 = .ok (.getfield 173, 3) := by decide +kernel
theorem dX8_readOne_68 : decode cX8_readOne 68 = .ok (.iconst 1, 1) := by decide +kernel
theorem dX8_readOne_69 : decode cX8_readOne 69 = .ok (.iadd, 1) := by decide +kernel
theorem dX8_readOne_70 : decode cX8_readOne 70 = .ok (.putfield 173, 3) := by decide +kernel
theorem dX8_readOne_73 : decode cX8_readOne 73 = .ok (.aload_n 0, 1) := by decide +kernel
theorem dX8_readOne_74 : decode cX8_readOne 74 = .ok (.getfield 35, 3) := by decide +kernel
theorem dX8_readOne_77 : decode cX8_readOne 77 = .ok (.iload_n 1, 1) := by decide +kernel
theorem dX8_readOne_78 : decode cX8_readOne 78 = .ok (.iconst 1, 1) := by decide +kernel
theorem dX8_readOne_79 : decode cX8_readOne 79 = .ok (.iadd, 1) := by decide +kernel
theorem dX8_readOne_80 : decode cX8_readOne 80 = .ok (.aload_n 0, 1) := by decide +kernel
theorem dX8_readOne_81 : decode cX8_readOne 81 = .ok (.iconst 1, 1) := by decide +kernel
theorem dX8_readOne_82 : decode cX8_readOne 82 = .ok (.bipush 99, 2) := by decide +kernel
theorem dX8_readOne_84 : decode cX8_readOne 84 = .ok (.invokevirtual 184, 3) := by decide +kernel
theorem dX8_readOne_87 : decode cX8_readOne 87 = .ok (.iastore, 1) := by decide +kernel
theorem dX8_readOne_88 : decode cX8_readOne 88 = .ok (.aload_n 0, 1) := by decide +kernel
theorem dX8_readOne_89 : decode cX8_readOne 89 = .ok (.getfield 35, 3) := by decide +kernel
theorem dX8_readOne_92 : decode cX8_readOne 92 = .ok (.iload_n 1, 1) := by decide +kernel
theorem dX8_readOne_93 : decode cX8_readOne 93 = .ok (.iconst 1, 1) := by decide +kernel
theorem dX8_readOne_94 : decode cX8_readOne 94 = .ok (.iadd, 1) := by decide +kernel
theorem dX8_readOne_95 : decode cX8_readOne 95 = .ok (.iaload, 1) := by decide +kernel
theorem dX8_readOne_96 : decode cX8_readOne 96 = .ok (.ifCond .le 7, 3) := by decide +kernel
theorem dX8_readOne_99 : decode cX8_readOne 99 = .ok (.iconst 1, 1) := by decide +kernel
theorem dX8_readOne_100 : decode cX8_readOne 100 = .ok (.goto 4, 3) := by decide +kernel
theorem dX8_readOne_103 : decode cX8_readOne 103 = .ok (.iconst 0, 1) := by decide +kernel
theorem dX8_readOne_104 : decode cX8_readOne 104 = .ok (.ireturn, 1) := by decide +kernel
theorem dX8_readPeople_0 : decode cX8_readPeople 0 = .ok (.aload_n 0, 1) := by decide +kernel
theorem dX8_readPeople_1 : decode cX8_readPeople 1 = .ok (.iconst 0, 1) := by decide +kernel
theorem dX8_readPeople_2 : decode cX8_readPeople 2 = .ok (.putfield 173, 3) := by decide +kernel
theorem dX8_readPeople_5 : decode cX8_readPeople 5 = .ok (.iconst 0, 1) := by decide +kernel
theorem dX8_readPeople_6 : decode cX8_readPeople 6 = .ok (.istore_n 1, 1) := by decide +kernel
theorem dX8_readPeople_7 : decode cX8_readPeople 7 = .ok (.iload_n 1, 1) := by decide +kernel
theorem dX8_readPeople_8 : decode cX8_readPeople 8 = .ok (.bipush 10, 2) := by decide +kernel
theorem dX8_readPeople_10 : decode cX8_readPeople 10 = .ok (.if_icmp .ge 63, 3) := by decide +kernel
theorem dX8_readPeople_13 : decode cX8_readPeople 13 = .ok (.aload_n 0, 1) := by decide +kernel
theorem dX8_readPeople_14 : decode cX8_readPeople 14 = .ok (.iconst 2, 1) := by decide +kernel
theorem dX8_readPeople_15 : decode cX8_readPeople 15 = .ok (.iload_n 1, 1) := by decide +kernel
theorem dX8_readPeople_16 : decode cX8_readPeople 16 = .ok (.imul, 1) := by decide +kernel
theorem dX8_readPeople_17 : decode cX8_readPeople 17 = .ok (.invokevirtual 187, 3) := by decide +kernel
theorem dX8_readPeople_20 : decode cX8_readPeople 20 = .ok (.ifCond .ne 5, 3) := by decide +kernel
theorem dX8_readPeople_23 : decode cX8_readPeople 23 = .ok (.iconst 0, 1) := by decide +kernel
theorem dX8_readPeople_24 : decode cX8_readPeople 24 = .ok (.ireturn, 1) := by decide +kernel
theorem dX8_readPeople_25 : decode cX8_readPeople 25 = .ok (.aload_n 0, 1) := by decide +kernel
theorem dX8_readPeople_26 : decode cX8_readPeople 26 = .ok (.iload_n 1, 1) := by decide +kernel
theorem dX8_readPeople_27 : decode cX8_readPeople 27 = .ok (.iconst 1, 1) := by decide +kernel
theorem dX8_readPeople_28 : decode cX8_readPeople 28 = .ok (.iadd, 1) := by decide +kernel
theorem dX8_readPeople_29 : decode cX8_readPeople 29 = .ok (.putfield 190, 3) := by decide +kernel
theorem dX8_readPeople_32 : decode cX8_readPeople 32 = .ok (.aload_n 0, 1) := by decide +kernel
theorem dX8_readPeople_33 : decode cX8_readPeople 33 = .ok (.invokevirtual 176, 3) := by decide +kernel
theorem dX8_readPeople_36 : decode cX8_readPeople 36 = .ok (.istore_n 2, 1) := by decide +kernel
theorem dX8_readPeople_37 : decode cX8_readPeople 37 = .ok (.iload_n 2, 1) := by decide +kernel
theorem dX8_readPeople_38 : decode cX8_readPeople 38 = .ok (.ifCond .ge 5, 3) := by decide +kernel
theorem dX8_readPeople_41 : decode cX8_readPeople 41 = .ok (.iconst 1, 1) := by decide +kernel
theorem dX8_readPeople_42 : decode cX8_readPeople 42 = .ok (.ireturn, 1) := by decide +kernel
theorem dX8_readPeople_43 : decode cX8_readPeople 43 = .ok (.iload_n 2, 1) := by decide +kernel
theorem dX8_readPeople_44 : decode cX8_readPeople 44 = .ok (.bipush 44, 2) := by decide +kernel
theorem dX8_readPeople_46 : decode cX8_readPeople 46 = .ok (.if_icmp .ne 9, 3) := by decide +kernel
theorem dX8_readPeople_49 : decode cX8_readPeople 49 = .ok (.iload_n 1, 1) := by decide +kernel
theorem dX8_readPeople_50 : decode cX8_readPeople 50 = .ok (.bipush 9, 2) := by decide +kernel
theorem dX8_readPeople_52 : decode cX8_readPeople 52 = .ok (.if_icmp .ne 5, 3) := by decide +kernel
theorem dX8_readPeople_55 : decode cX8_readPeople 55 = .ok (.iconst 0, 1) := by decide +kernel
theorem dX8_readPeople_56 : decode cX8_readPeople 56 = .ok (.ireturn, 1) := by decide +kernel
theorem dX8_readPeople_57 : decode cX8_readPeople 57 = .ok (.aload_n 0, 1) := by decide +kernel
theorem dX8_readPeople_58 : decode cX8_readPeople 58 = .ok (.dup, 1) := by decide +kernel
theorem dX8_readPeople_59 : decode cX8_readPeople 59 = .ok (.getfield 173, 3) := by decide +kernel
theorem dX8_readPeople_62 : decode cX8_readPeople 62 = .ok (.iconst 1, 1) := by decide +kernel
theorem dX8_readPeople_63 : decode cX8_readPeople 63 = .ok (.iadd, 1) := by decide +kernel
theorem dX8_readPeople_64 : decode cX8_readPeople 64 = .ok (.putfield 173, 3) := by decide +kernel
theorem dX8_readPeople_67 : decode cX8_readPeople 67 = .ok (.iinc 1 1, 3) := by decide +kernel
theorem dX8_readPeople_70 : decode cX8_readPeople 70 = .ok (.goto (-63), 3) := by decide +kernel
theorem dX8_readPeople_73 : decode cX8_readPeople 73 = .ok (.iconst 0, 1) := by decide +kernel
theorem dX8_readPeople_74 : decode cX8_readPeople 74 = .ok (.ireturn, 1) := by decide +kernel
theorem dX8_people_0 : decode cX8_people 0 = .ok (.aload_n 0, 1) := by decide +kernel
theorem dX8_people_1 : decode cX8_people 1 = .ok (.invokevirtual 193, 3) := by decide +kernel
theorem dX8_people_4 : decode cX8_people 4 = .ok (.istore_n 1, 1) := by decide +kernel
theorem dX8_people_5 : decode cX8_people 5 = .ok (.iload_n 1, 1) := by decide +kernel
theorem dX8_people_6 : decode cX8_people 6 = .ok (.ifCond .ne 8, 3) := by decide +kernel
theorem dX8_people_9 : decode cX8_people 9 = .ok (.aload_n 0, 1) := by decide +kernel
theorem dX8_people_10 : decode cX8_people 10 = .ok (.invokevirtual 176, 3) := by decide +kernel
theorem dX8_people_13 : decode cX8_people 13 = .ok (.pop, 1) := by decide +kernel
theorem dX8_people_14 : decode cX8_people 14 = .ok (.aload_n 0, 1) := by decide +kernel
theorem dX8_people_15 : decode cX8_people 15 = .ok (.iconst 0, 1) := by decide +kernel
theorem dX8_people_16 : decode cX8_people 16 = .ok (.putfield 170, 3) := by decide +kernel
theorem dX8_people_19 : decode cX8_people 19 = .ok (.iload_n 1, 1) := by decide +kernel
theorem dX8_people_20 : decode cX8_people 20 = .ok (.ifCond .ne 11, 3) := by decide +kernel
theorem dX8_people_23 : decode cX8_people 23 = .ok (.bipush (-20), 2) := by decide +kernel
theorem dX8_people_25 : decode cX8_people 25 = .ok (.aload_n 0, 1) := by decide +kernel
theorem dX8_people_26 : decode cX8_people 26 = .ok (.getfield 173, 3) := by decide +kernel
theorem dX8_people_29 : decode cX8_people 29 = .ok (.isub, 1) := by decide +kernel
theorem dX8_people_30 : decode cX8_people 30 = .ok (.ireturn, 1) := by decide +kernel
theorem dX8_people_31 : decode cX8_people 31 = .ok (.iconst 0, 1) := by decide +kernel
theorem dX8_people_32 : decode cX8_people 32 = .ok (.istore_n 2, 1) := by decide +kernel
theorem dX8_people_33 : decode cX8_people 33 = .ok (.iload_n 2, 1) := by decide +kernel
theorem dX8_people_34 : decode cX8_people 34 = .ok (.bipush 12, 2) := by decide +kernel
theorem dX8_people_36 : decode cX8_people 36 = .ok (.if_icmp .ge 21, 3) := by decide +kernel
theorem dX8_people_39 : decode cX8_people 39 = .ok (.aload_n 0, 1) := by decide +kernel
theorem dX8_people_40 : decode cX8_people 40 = .ok (.getfield 29, 3) := by decide +kernel
theorem dX8_people_43 : decode cX8_people 43 = .ok (.iload_n 2, 1) := by decide +kernel
theorem dX8_people_44 : decode cX8_people 44 = .ok (.aload_n 0, 1) := by decide +kernel
theorem dX8_people_45 : decode cX8_people 45 = .ok (.getfield 22, 3) := by decide +kernel
theorem dX8_people_48 : decode cX8_people 48 = .ok (.iload_n 2, 1) := by decide +kernel
theorem dX8_people_49 : decode cX8_people 49 = .ok (.iaload, 1) := by decide +kernel
theorem dX8_people_50 : decode cX8_people 50 = .ok (.iastore, 1) := by decide +kernel
theorem dX8_people_51 : decode cX8_people 51 = .ok (.iinc 2 1, 3) := by decide +kernel
theorem dX8_people_54 : decode cX8_people 54 = .ok (.goto (-21), 3) := by decide +kernel
theorem dX8_people_57 : decode cX8_people 57 = .ok (.aload_n 0, 1) := by decide +kernel
theorem dX8_people_58 : decode cX8_people 58 = .ok (.invokevirtual 144, 3) := by decide +kernel
theorem dX8_people_61 : decode cX8_people 61 = .ok (.ifCond .ne 6, 3) := by decide +kernel
theorem dX8_people_64 : decode cX8_people 64 = .ok (.bipush (-2), 2) := by decide +kernel
theorem dX8_people_66 : decode cX8_people 66 = .ok (.ireturn, 1) := by decide +kernel
theorem dX8_people_67 : decode cX8_people 67 = .ok (.aload_n 0, 1) := by decide +kernel
theorem dX8_people_68 : decode cX8_people 68 = .ok (.iconst 0, 1) := by decide +kernel
theorem dX8_people_69 : decode cX8_people 69 = .ok (.putfield 69, 3) := by decide +kernel
theorem dX8_people_72 : decode cX8_people 72 = .ok (.iconst 0, 1) := by decide +kernel
theorem dX8_people_73 : decode cX8_people 73 = .ok (.istore_n 2, 1) := by decide +kernel
theorem dX8_people_74 : decode cX8_people 74 = .ok (.iload_n 2, 1) := by decide +kernel
theorem dX8_people_75 : decode cX8_people 75 = .ok (.aload_n 0, 1) := by decide +kernel
theorem dX8_people_76 : decode cX8_people 76 = .ok (.getfield 190, 3) := by decide +kernel
theorem dX8_people_79 : decode cX8_people 79 = .ok (.if_icmp .ge 31, 3) := by decide +kernel
theorem dX8_people_82 : decode cX8_people 82 = .ok (.aload_n 0, 1) := by decide +kernel
theorem dX8_people_83 : decode cX8_people 83 = .ok (.aload_n 0, 1) := by decide +kernel
theorem dX8_people_84 : decode cX8_people 84 = .ok (.getfield 35, 3) := by decide +kernel
theorem dX8_people_87 : decode cX8_people 87 = .ok (.iconst 2, 1) := by decide +kernel
theorem dX8_people_88 : decode cX8_people 88 = .ok (.iload_n 2, 1) := by decide +kernel
theorem dX8_people_89 : decode cX8_people 89 = .ok (.imul, 1) := by decide +kernel
theorem dX8_people_90 : decode cX8_people 90 = .ok (.iaload, 1) := by decide +kernel
theorem dX8_people_91 : decode cX8_people 91 = .ok (.aload_n 0, 1) := by decide +kernel
theorem dX8_people_92 : decode cX8_people 92 = .ok (.getfield 35, 3) := by decide +kernel
theorem dX8_people_95 : decode cX8_people 95 = .ok (.iconst 2, 1) := by decide +kernel
theorem dX8_people_96 : decode cX8_people 96 = .ok (.iload_n 2, 1) := by decide +kernel
theorem dX8_people_97 : decode cX8_people 97 = .ok (.imul, 1) := by decide +kernel
theorem dX8_people_98 : decode cX8_people 98 = .ok (.iconst 1, 1) := by decide +kernel
theorem dX8_people_99 : decode cX8_people 99 = .ok (.iadd, 1) := by decide +kernel
theorem dX8_people_100 : decode cX8_people 100 = .ok (.iaload, 1) := by decide +kernel
theorem dX8_people_101 : decode cX8_people 101 = .ok (.invokevirtual 82, 3) := by decide +kernel
theorem dX8_people_104 : decode cX8_people 104 = .ok (.iinc 2 1, 3) := by decide +kernel
theorem dX8_people_107 : decode cX8_people 107 = .ok (.goto (-33), 3) := by decide +kernel
theorem dX8_people_110 : decode cX8_people 110 = .ok (.aload_n 0, 1) := by decide +kernel
theorem dX8_people_111 : decode cX8_people 111 = .ok (.getfield 69, 3) := by decide +kernel
theorem dX8_people_114 : decode cX8_people 114 = .ok (.ireturn, 1) := by decide +kernel
theorem dX8_readAct_0 : decode cX8_readAct 0 = .ok (.aload_n 0, 1) := by decide +kernel
theorem dX8_readAct_1 : decode cX8_readAct 1 = .ok (.invokevirtual 176, 3) := by decide +kernel
theorem dX8_readAct_4 : decode cX8_readAct 4 = .ok (.istore_n 2, 1) := by decide +kernel
theorem dX8_readAct_5 : decode cX8_readAct 5 = .ok (.iload_n 2, 1) := by decide +kernel
theorem dX8_readAct_6 : decode cX8_readAct 6 = .ok (.bipush 105, 2) := by decide +kernel
theorem dX8_readAct_8 : decode cX8_readAct 8 = .ok (.if_icmp .eq 23, 3) := by decide +kernel
theorem dX8_readAct_11 : decode cX8_readAct 11 = .ok (.iload_n 2, 1) := by decide +kernel
theorem dX8_readAct_12 : decode cX8_readAct 12 = .ok (.bipush 111, 2) := by decide +kernel
theorem dX8_readAct_14 : decode cX8_readAct 14 = .ok (.if_icmp .eq 17, 3) := by decide +kernel
theorem dX8_readAct_17 : decode cX8_readAct 17 = .ok (.iload_n 2, 1) := by decide +kernel
theorem dX8_readAct_18 : decode cX8_readAct 18 = .ok (.bipush 115, 2) := by decide +kernel
theorem dX8_readAct_20 : decode cX8_readAct 20 = .ok (.if_icmp .eq 11, 3) := by decide +kernel
theorem dX8_readAct_23 : decode cX8_readAct 23 = .ok (.iload_n 2, 1) := by decide +kernel
theorem dX8_readAct_24 : decode cX8_readAct 24 = .ok (.bipush 116, 2) := by decide +kernel
theorem dX8_readAct_26 : decode cX8_readAct 26 = .ok (.if_icmp .eq 5, 3) := by decide +kernel
theorem dX8_readAct_29 : decode cX8_readAct 29 = .ok (.iconst 0, 1) := by decide +kernel
theorem dX8_readAct_30 : decode cX8_readAct 30 = .ok (.ireturn, 1) := by decide +kernel
theorem dX8_readAct_31 : decode cX8_readAct 31 = .ok (.aload_n 0, 1) := by decide +kernel
theorem dX8_readAct_32 : decode cX8_readAct 32 = .ok (.getfield 35, 3) := by decide +kernel
theorem dX8_readAct_35 : decode cX8_readAct 35 = .ok (.iload_n 1, 1) := by decide +kernel
theorem dX8_readAct_36 : decode cX8_readAct 36 = .ok (.iload_n 2, 1) := by decide +kernel
theorem dX8_readAct_37 : decode cX8_readAct 37 = .ok (.iastore, 1) := by decide +kernel
theorem dX8_readAct_38 : decode cX8_readAct 38 = .ok (.aload_n 0, 1) := by decide +kernel
theorem dX8_readAct_39 : decode cX8_readAct 39 = .ok (.dup, 1) := by decide +kernel
theorem dX8_readAct_40 : decode cX8_readAct 40 = .ok (.getfield 173, 3) := by decide +kernel
theorem dX8_readAct_43 : decode cX8_readAct 43 = .ok (.iconst 1, 1) := by decide +kernel
theorem dX8_readAct_44 : decode cX8_readAct 44 = .ok (.iadd, 1) := by decide +kernel
theorem dX8_readAct_45 : decode cX8_readAct 45 = .ok (.putfield 173, 3) := by decide +kernel
theorem dX8_readAct_48 : decode cX8_readAct 48 = .ok (.iload_n 2, 1) := by decide +kernel
theorem dX8_readAct_49 : decode cX8_readAct 49 = .ok (.bipush 115, 2) := by decide +kernel
theorem dX8_readAct_51 : decode cX8_readAct 51 = .ok (.if_icmp .ne 35, 3) := by decide +kernel
theorem dX8_readAct_54 : decode cX8_readAct 54 = .ok (.aload_n 0, 1) := by decide +kernel
theorem dX8_readAct_55 : decode cX8_readAct 55 = .ok (.getfield 35, 3) := by decide +kernel
theorem dX8_readAct_58 : decode cX8_readAct 58 = .ok (.iload_n 1, 1) := by decide +kernel
theorem dX8_readAct_59 : decode cX8_readAct 59 = .ok (.iconst 1, 1) := by decide +kernel
theorem dX8_readAct_60 : decode cX8_readAct 60 = .ok (.iadd, 1) := by decide +kernel
theorem dX8_readAct_61 : decode cX8_readAct 61 = .ok (.aload_n 0, 1) := by decide +kernel
theorem dX8_readAct_62 : decode cX8_readAct 62 = .ok (.iconst 0, 1) := by decide +kernel
theorem dX8_readAct_63 : decode cX8_readAct 63 = .ok (.bipush 99, 2) := by decide +kernel
theorem dX8_readAct_65 : decode cX8_readAct 65 = .ok (.invokevirtual 184, 3) := by decide +kernel
theorem dX8_readAct_68 : decode cX8_readAct 68 = .ok (.iastore, 1) := by decide +kernel
theorem dX8_readAct_69 : decode cX8_readAct 69 = .ok (.aload_n 0, 1) := by decide +kernel
theorem dX8_readAct_70 : decode cX8_readAct 70 = .ok (.getfield 35, 3) := by decide +kernel
theorem dX8_readAct_73 : decode cX8_readAct 73 = .ok (.iload_n 1, 1) := by decide +kernel
theorem dX8_readAct_74 : decode cX8_readAct 74 = .ok (.iconst 1, 1) := by decide +kernel
theorem dX8_readAct_75 : decode cX8_readAct 75 = .ok (.iadd, 1) := by decide +kernel
theorem dX8_readAct_76 : decode cX8_readAct 76 = .ok (.iaload, 1) := by decide +kernel
theorem dX8_readAct_77 : decode cX8_readAct 77 = .ok (.ifCond .lt 7, 3) := by decide +kernel
theorem dX8_readAct_80 : decode cX8_readAct 80 = .ok (.iconst 1, 1) := by decide +kernel
theorem dX8_readAct_81 : decode cX8_readAct 81 = .ok (.goto 4, 3) := by decide +kernel
theorem dX8_readAct_84 : decode cX8_readAct 84 = .ok (.iconst 0, 1) := by decide +kernel
theorem dX8_readAct_85 : decode cX8_readAct 85 = .ok (.ireturn, 1) := by decide +kernel
theorem dX8_readAct_86 : decode cX8_readAct 86 = .ok (.iload_n 2, 1) := by decide +kernel
theorem dX8_readAct_87 : decode cX8_readAct 87 = .ok (.bipush 116, 2) := by decide +kernel
theorem dX8_readAct_89 : decode cX8_readAct 89 = .ok (.if_icmp .eq 49, 3) := by decide +kernel
theorem dX8_readAct_92 : decode cX8_readAct 92 = .ok (.aload_n 0, 1) := by decide +kernel
theorem dX8_readAct_93 : decode cX8_readAct 93 = .ok (.getfield 35, 3) := by decide +kernel
theorem dX8_readAct_96 : decode cX8_readAct 96 = .ok (.iload_n 1, 1) := by decide +kernel
theorem dX8_readAct_97 : decode cX8_readAct 97 = .ok (.iconst 1, 1) := by decide +kernel
theorem dX8_readAct_98 : decode cX8_readAct 98 = .ok (.iadd, 1) := by decide +kernel
theorem dX8_readAct_99 : decode cX8_readAct 99 = .ok (.aload_n 0, 1) := by decide +kernel
theorem dX8_readAct_100 : decode cX8_readAct 100 = .ok (.invokevirtual 176, 3) := by decide +kernel
theorem dX8_readAct_103 : decode cX8_readAct 103 = .ok (.bipush 48, 2) := by decide +kernel
theorem dX8_readAct_105 : decode cX8_readAct 105 = .ok (.isub, 1) := by decide +kernel
theorem dX8_readAct_106 : decode cX8_readAct 106 = .ok (.iastore, 1) := by decide +kernel
theorem dX8_readAct_107 : decode cX8_readAct 107 = .ok (.aload_n 0, 1) := by decide +kernel
theorem dX8_readAct_108 : decode cX8_readAct 108 = .ok (.getfield 35, 3) := by decide +kernel
theorem dX8_readAct_111 : decode cX8_readAct 111 = .ok (.iload_n 1, 1) := by decide +kernel
theorem dX8_readAct_112 : decode cX8_readAct 112 = .ok (.iconst 1, 1) := by decide +kernel
theorem dX8_readAct_113 : decode cX8_readAct 113 = .ok (.iadd, 1) := by decide +kernel
theorem dX8_readAct_114 : decode cX8_readAct 114 = .ok (.iaload, 1) := by decide +kernel
theorem dX8_readAct_115 : decode cX8_readAct 115 = .ok (.i2l, 1) := by decide +kernel
theorem dX8_readAct_116 : decode cX8_readAct 116 = .ok (.lconst 0, 1) := by decide +kernel
theorem dX8_readAct_117 : decode cX8_readAct 117 = .ok (.ldc2_w 196, 3) := by decide +kernel
theorem dX8_readAct_120 : decode cX8_readAct 120 = .ok (.invokestatic 72, 3) := by decide +kernel
theorem dX8_readAct_123 : decode cX8_readAct 123 = .ok (.ifCond .ne 5, 3) := by decide +kernel
theorem dX8_readAct_126 : decode cX8_readAct 126 = .ok (.iconst 0, 1) := by decide +kernel
theorem dX8_readAct_127 : decode cX8_readAct 127 = .ok (.ireturn, 1) := by decide +kernel
theorem dX8_readAct_128 : decode cX8_readAct 128 = .ok (.aload_n 0, 1) := by decide +kernel
theorem dX8_readAct_129 : decode cX8_readAct 129 = .ok (.dup, 1) := by decide +kernel
theorem dX8_readAct_130 : decode cX8_readAct 130 = .ok (.getfield 173, 3) := by decide +kernel
theorem dX8_readAct_133 : decode cX8_readAct 133 = .ok (.iconst 1, 1) := by decide +kernel
theorem dX8_readAct_134 : decode cX8_readAct 134 = .ok (.iadd, 1) := by decide +kernel
theorem dX8_readAct_135 : decode cX8_readAct 135 = .ok (.putfield 173, 3) := by decide +kernel
theorem dX8_readAct_138 : decode cX8_readAct 138 = .ok (.iconst 1, 1) := by decide +kernel
theorem dX8_readAct_139 : decode cX8_readAct 139 = .ok (.ireturn, 1) := by decide +kernel
theorem dX8_readEvening_0 : decode cX8_readEvening 0 = .ok (.aload_n 0, 1) := by decide +kernel
theorem dX8_readEvening_1 : decode cX8_readEvening 1 = .ok (.iconst 0, 1) := by decide +kernel
theorem dX8_readEvening_2 : decode cX8_readEvening 2 = .ok (.putfield 173, 3) := by decide +kernel
theorem dX8_readEvening_5 : decode cX8_readEvening 5 = .ok (.aload_n 0, 1) := by decide +kernel
theorem dX8_readEvening_6 : decode cX8_readEvening 6 = .ok (.iconst 0, 1) := by decide +kernel
theorem dX8_readEvening_7 : decode cX8_readEvening 7 = .ok (.putfield 190, 3) := by decide +kernel
theorem dX8_readEvening_10 : decode cX8_readEvening 10 = .ok (.iconst 1, 1) := by decide +kernel
theorem dX8_readEvening_11 : decode cX8_readEvening 11 = .ok (.istore_n 1, 1) := by decide +kernel
theorem dX8_readEvening_12 : decode cX8_readEvening 12 = .ok (.iload_n 1, 1) := by decide +kernel
theorem dX8_readEvening_13 : decode cX8_readEvening 13 = .ok (.ifCond .eq 64, 3) := by decide +kernel
theorem dX8_readEvening_16 : decode cX8_readEvening 16 = .ok (.aload_n 0, 1) := by decide +kernel
theorem dX8_readEvening_17 : decode cX8_readEvening 17 = .ok (.iconst 2, 1) := by decide +kernel
theorem dX8_readEvening_18 : decode cX8_readEvening 18 = .ok (.aload_n 0, 1) := by decide +kernel
theorem dX8_readEvening_19 : decode cX8_readEvening 19 = .ok (.getfield 190, 3) := by decide +kernel
theorem dX8_readEvening_22 : decode cX8_readEvening 22 = .ok (.imul, 1) := by decide +kernel
theorem dX8_readEvening_23 : decode cX8_readEvening 23 = .ok (.invokevirtual 198, 3) := by decide +kernel
theorem dX8_readEvening_26 : decode cX8_readEvening 26 = .ok (.ifCond .ne 5, 3) := by decide +kernel
theorem dX8_readEvening_29 : decode cX8_readEvening 29 = .ok (.iconst 0, 1) := by decide +kernel
theorem dX8_readEvening_30 : decode cX8_readEvening 30 = .ok (.ireturn, 1) := by decide +kernel
theorem dX8_readEvening_31 : decode cX8_readEvening 31 = .ok (.aload_n 0, 1) := by decide +kernel
theorem dX8_readEvening_32 : decode cX8_readEvening 32 = .ok (.dup, 1) := by decide +kernel
theorem dX8_readEvening_33 : decode cX8_readEvening 33 = .ok (.getfield 190, 3) := by decide +kernel
theorem dX8_readEvening_36 : decode cX8_readEvening 36 = .ok (.iconst 1, 1) := by decide +kernel
theorem dX8_readEvening_37 : decode cX8_readEvening 37 = .ok (.iadd, 1) := by decide +kernel
theorem dX8_readEvening_38 : decode cX8_readEvening 38 = .ok (.putfield 190, 3) := by decide +kernel
theorem dX8_readEvening_41 : decode cX8_readEvening 41 = .ok (.aload_n 0, 1) := by decide +kernel
theorem dX8_readEvening_42 : decode cX8_readEvening 42 = .ok (.invokevirtual 176, 3) := by decide +kernel
theorem dX8_readEvening_45 : decode cX8_readEvening 45 = .ok (.bipush 59, 2) := by decide +kernel
theorem dX8_readEvening_47 : decode cX8_readEvening 47 = .ok (.if_icmp .ne 7, 3) := by decide +kernel
theorem dX8_readEvening_50 : decode cX8_readEvening 50 = .ok (.iconst 1, 1) := by decide +kernel
theorem dX8_readEvening_51 : decode cX8_readEvening 51 = .ok (.goto 4, 3) := by decide +kernel
theorem dX8_readEvening_54 : decode cX8_readEvening 54 = .ok (.iconst 0, 1) := by decide +kernel
theorem dX8_readEvening_55 : decode cX8_readEvening 55 = .ok (.istore_n 1, 1) := by decide +kernel
theorem dX8_readEvening_56 : decode cX8_readEvening 56 = .ok (.aload_n 0, 1) := by decide +kernel
theorem dX8_readEvening_57 : decode cX8_readEvening 57 = .ok (.dup, 1) := by decide +kernel
theorem dX8_readEvening_58 : decode cX8_readEvening 58 = .ok (.getfield 173, 3) := by decide +kernel
theorem dX8_readEvening_61 : decode cX8_readEvening 61 = .ok (.iload_n 1, 1) := by decide +kernel
theorem dX8_readEvening_62 : decode cX8_readEvening 62 = .ok (.ifCond .eq 7, 3) := by decide +kernel
theorem dX8_readEvening_65 : decode cX8_readEvening 65 = .ok (.iconst 1, 1) := by decide +kernel
theorem dX8_readEvening_66 : decode cX8_readEvening 66 = .ok (.goto 4, 3) := by decide +kernel
theorem dX8_readEvening_69 : decode cX8_readEvening 69 = .ok (.iconst 0, 1) := by decide +kernel
theorem dX8_readEvening_70 : decode cX8_readEvening 70 = .ok (.iadd, 1) := by decide +kernel
theorem dX8_readEvening_71 : decode cX8_readEvening 71 = .ok (.putfield 173, 3) := by decide +kernel
theorem dX8_readEvening_74 : decode cX8_readEvening 74 = .ok (.goto (-62), 3) := by decide +kernel
theorem dX8_readEvening_77 : decode cX8_readEvening 77 = .ok (.aload_n 0, 1) := by decide +kernel
theorem dX8_readEvening_78 : decode cX8_readEvening 78 = .ok (.invokevirtual 176, 3) := by decide +kernel
theorem dX8_readEvening_81 : decode cX8_readEvening 81 = .ok (.ifCond .ge 7, 3) := by decide +kernel
theorem dX8_readEvening_84 : decode cX8_readEvening 84 = .ok (.iconst 1, 1) := by decide +kernel
theorem dX8_readEvening_85 : decode cX8_readEvening 85 = .ok (.goto 4, 3) := by decide +kernel
theorem dX8_readEvening_88 : decode cX8_readEvening 88 = .ok (.iconst 0, 1) := by decide +kernel
theorem dX8_readEvening_89 : decode cX8_readEvening 89 = .ok (.ireturn, 1) := by decide +kernel
theorem dX8_does_0 : decode cX8_does 0 = .ok (.aload_n 0, 1) := by decide +kernel
theorem dX8_does_1 : decode cX8_does 1 = .ok (.getfield 35, 3) := by decide +kernel
theorem dX8_does_4 : decode cX8_does 4 = .ok (.iload_n 1, 1) := by decide +kernel
theorem dX8_does_5 : decode cX8_does 5 = .ok (.iconst 1, 1) := by decide +kernel
theorem dX8_does_6 : decode cX8_does 6 = .ok (.iadd, 1) := by decide +kernel
theorem dX8_does_7 : decode cX8_does 7 = .ok (.iaload, 1) := by decide +kernel
theorem dX8_does_8 : decode cX8_does 8 = .ok (.istore_n 2, 1) := by decide +kernel
theorem dX8_does_9 : decode cX8_does 9 = .ok (.aload_n 0, 1) := by decide +kernel
theorem dX8_does_10 : decode cX8_does 10 = .ok (.getfield 35, 3) := by decide +kernel
theorem dX8_does_13 : decode cX8_does 13 = .ok (.iload_n 1, 1) := by decide +kernel
theorem dX8_does_14 : decode cX8_does 14 = .ok (.iaload, 1) := by decide +kernel
theorem dX8_does_15 : decode cX8_does 15 = .ok (.bipush 105, 2) := by decide +kernel
theorem dX8_does_17 : decode cX8_does 17 = .ok (.if_icmp .ne 19, 3) := by decide +kernel
theorem dX8_does_20 : decode cX8_does 20 = .ok (.aload_n 0, 1) := by decide +kernel
theorem dX8_does_21 : decode cX8_does 21 = .ok (.iload_n 2, 1) := by decide +kernel
theorem dX8_does_22 : decode cX8_does 22 = .ok (.invokevirtual 201, 3) := by decide +kernel
theorem dX8_does_25 : decode cX8_does 25 = .ok (.ifCond .lt 7, 3) := by decide +kernel
theorem dX8_does_28 : decode cX8_does 28 = .ok (.iconst 1, 1) := by decide +kernel
theorem dX8_does_29 : decode cX8_does 29 = .ok (.goto 74, 3) := by decide +kernel
theorem dX8_does_32 : decode cX8_does 32 = .ok (.iconst 0, 1) := by decide +kernel
theorem dX8_does_33 : decode cX8_does 33 = .ok (.goto 70, 3) := by decide +kernel
theorem dX8_does_36 : decode cX8_does 36 = .ok (.aload_n 0, 1) := by decide +kernel
theorem dX8_does_37 : decode cX8_does 37 = .ok (.getfield 35, 3) := by decide +kernel
theorem dX8_does_40 : decode cX8_does 40 = .ok (.iload_n 1, 1) := by decide +kernel
theorem dX8_does_41 : decode cX8_does 41 = .ok (.iaload, 1) := by decide +kernel
theorem dX8_does_42 : decode cX8_does 42 = .ok (.bipush 111, 2) := by decide +kernel
theorem dX8_does_44 : decode cX8_does 44 = .ok (.if_icmp .ne 19, 3) := by decide +kernel
theorem dX8_does_47 : decode cX8_does 47 = .ok (.aload_n 0, 1) := by decide +kernel
theorem dX8_does_48 : decode cX8_does 48 = .ok (.iload_n 2, 1) := by decide +kernel
theorem dX8_does_49 : decode cX8_does 49 = .ok (.invokevirtual 204, 3) := by decide +kernel
theorem dX8_does_52 : decode cX8_does 52 = .ok (.ifCond .lt 7, 3) := by decide +kernel
theorem dX8_does_55 : decode cX8_does 55 = .ok (.iconst 1, 1) := by decide +kernel
theorem dX8_does_56 : decode cX8_does 56 = .ok (.goto 47, 3) := by decide +kernel
theorem dX8_does_59 : decode cX8_does 59 = .ok (.iconst 0, 1) := by decide +kernel
theorem dX8_does_60 : decode cX8_does 60 = .ok (.goto 43, 3) := by decide +kernel
theorem dX8_does_63 : decode cX8_does 63 = .ok (.aload_n 0, 1) := by decide +kernel
theorem dX8_does_64 : decode cX8_does 64 = .ok (.getfield 35, 3) := by decide +kernel
theorem dX8_does_67 : decode cX8_does 67 = .ok (.iload_n 1, 1) := by decide +kernel
theorem dX8_does_68 : decode cX8_does 68 = .ok (.iaload, 1) := by decide +kernel
theorem dX8_does_69 : decode cX8_does 69 = .ok (.bipush 115, 2) := by decide +kernel
theorem dX8_does_71 : decode cX8_does 71 = .ok (.if_icmp .ne 19, 3) := by decide +kernel
theorem dX8_does_74 : decode cX8_does 74 = .ok (.aload_n 0, 1) := by decide +kernel
theorem dX8_does_75 : decode cX8_does 75 = .ok (.iload_n 2, 1) := by decide +kernel
theorem dX8_does_76 : decode cX8_does 76 = .ok (.invokevirtual 207, 3) := by decide +kernel
theorem dX8_does_79 : decode cX8_does 79 = .ok (.ifCond .lt 7, 3) := by decide +kernel
theorem dX8_does_82 : decode cX8_does 82 = .ok (.iconst 1, 1) := by decide +kernel
theorem dX8_does_83 : decode cX8_does 83 = .ok (.goto 20, 3) := by decide +kernel
theorem dX8_does_86 : decode cX8_does 86 = .ok (.iconst 0, 1) := by decide +kernel
theorem dX8_does_87 : decode cX8_does 87 = .ok (.goto 16, 3) := by decide +kernel
theorem dX8_does_90 : decode cX8_does 90 = .ok (.aload_n 0, 1) := by decide +kernel
theorem dX8_does_91 : decode cX8_does 91 = .ok (.iconst 1, 1) := by decide +kernel
theorem dX8_does_92 : decode cX8_does 92 = .ok (.invokevirtual 209, 3) := by decide +kernel
theorem dX8_does_95 : decode cX8_does 95 = .ok (.ifCond .lt 7, 3) := by decide +kernel
theorem dX8_does_98 : decode cX8_does 98 = .ok (.iconst 1, 1) := by decide +kernel
theorem dX8_does_99 : decode cX8_does 99 = .ok (.goto 4, 3) := by decide +kernel
theorem dX8_does_102 : decode cX8_does 102 = .ok (.iconst 0, 1) := by decide +kernel
theorem dX8_does_103 : decode cX8_does 103 = .ok (.ireturn, 1) := by decide +kernel
theorem dX8_evening_0 : decode cX8_evening 0 = .ok (.aload_n 0, 1) := by decide +kernel
theorem dX8_evening_1 : decode cX8_evening 1 = .ok (.invokevirtual 212, 3) := by decide +kernel
theorem dX8_evening_4 : decode cX8_evening 4 = .ok (.istore_n 1, 1) := by decide +kernel
theorem dX8_evening_5 : decode cX8_evening 5 = .ok (.iload_n 1, 1) := by decide +kernel
theorem dX8_evening_6 : decode cX8_evening 6 = .ok (.ifCond .ne 8, 3) := by decide +kernel
theorem dX8_evening_9 : decode cX8_evening 9 = .ok (.aload_n 0, 1) := by decide +kernel
theorem dX8_evening_10 : decode cX8_evening 10 = .ok (.invokevirtual 176, 3) := by decide +kernel
theorem dX8_evening_13 : decode cX8_evening 13 = .ok (.pop, 1) := by decide +kernel
theorem dX8_evening_14 : decode cX8_evening 14 = .ok (.aload_n 0, 1) := by decide +kernel
theorem dX8_evening_15 : decode cX8_evening 15 = .ok (.iconst 0, 1) := by decide +kernel
theorem dX8_evening_16 : decode cX8_evening 16 = .ok (.putfield 170, 3) := by decide +kernel
theorem dX8_evening_19 : decode cX8_evening 19 = .ok (.iload_n 1, 1) := by decide +kernel
theorem dX8_evening_20 : decode cX8_evening 20 = .ok (.ifCond .ne 11, 3) := by decide +kernel
theorem dX8_evening_23 : decode cX8_evening 23 = .ok (.bipush (-20), 2) := by decide +kernel
theorem dX8_evening_25 : decode cX8_evening 25 = .ok (.aload_n 0, 1) := by decide +kernel
theorem dX8_evening_26 : decode cX8_evening 26 = .ok (.getfield 173, 3) := by decide +kernel
theorem dX8_evening_29 : decode cX8_evening 29 = .ok (.isub, 1) := by decide +kernel
theorem dX8_evening_30 : decode cX8_evening 30 = .ok (.ireturn, 1) := by decide +kernel
theorem dX8_evening_31 : decode cX8_evening 31 = .ok (.aload_n 0, 1) := by decide +kernel
theorem dX8_evening_32 : decode cX8_evening 32 = .ok (.getfield 190, 3) := by decide +kernel
theorem dX8_evening_35 : decode cX8_evening 35 = .ok (.istore_n 2, 1) := by decide +kernel
theorem dX8_evening_36 : decode cX8_evening 36 = .ok (.iconst 0, 1) := by decide +kernel
theorem dX8_evening_37 : decode cX8_evening 37 = .ok (.istore_n 3, 1) := by decide +kernel
theorem dX8_evening_38 : decode cX8_evening 38 = .ok (.iload_n 3, 1) := by decide +kernel
theorem dX8_evening_39 : decode cX8_evening 39 = .ok (.iload_n 2, 1) := by decide +kernel
theorem dX8_evening_40 : decode cX8_evening 40 = .ok (.if_icmp .ge 21, 3) := by decide +kernel
theorem dX8_evening_43 : decode cX8_evening 43 = .ok (.aload_n 0, 1) := by decide +kernel
theorem dX8_evening_44 : decode cX8_evening 44 = .ok (.iconst 2, 1) := by decide +kernel
theorem dX8_evening_45 : decode cX8_evening 45 = .ok (.iload_n 3, 1) := by decide +kernel
theorem dX8_evening_46 : decode cX8_evening 46 = .ok (.imul, 1) := by decide +kernel
theorem dX8_evening_47 : decode cX8_evening 47 = .ok (.invokevirtual 215, 3) := by decide +kernel
theorem dX8_evening_50 : decode cX8_evening 50 = .ok (.ifCond .ne 5, 3) := by decide +kernel
theorem dX8_evening_53 : decode cX8_evening 53 = .ok (.iload_n 3, 1) := by decide +kernel
theorem dX8_evening_54 : decode cX8_evening 54 = .ok (.ireturn, 1) := by decide +kernel
theorem dX8_evening_55 : decode cX8_evening 55 = .ok (.iinc 3 1, 3) := by decide +kernel
theorem dX8_evening_58 : decode cX8_evening 58 = .ok (.goto (-20), 3) := by decide +kernel
theorem dX8_evening_61 : decode cX8_evening 61 = .ok (.iload_n 2, 1) := by decide +kernel
theorem dX8_evening_62 : decode cX8_evening 62 = .ok (.ireturn, 1) := by decide +kernel
theorem dX8_mayBoard_0 : decode cX8_mayBoard 0 = .ok (.aload_n 0, 1) := by decide +kernel
theorem dX8_mayBoard_1 : decode cX8_mayBoard 1 = .ok (.getfield 16, 3) := by decide +kernel
theorem dX8_mayBoard_4 : decode cX8_mayBoard 4 = .ok (.iload_n 1, 1) := by decide +kernel
theorem dX8_mayBoard_5 : decode cX8_mayBoard 5 = .ok (.iaload, 1) := by decide +kernel
theorem dX8_mayBoard_6 : decode cX8_mayBoard 6 = .ok (.istore_n 2, 1) := by decide +kernel
theorem dX8_mayBoard_7 : decode cX8_mayBoard 7 = .ok (.aload_n 0, 1) := by decide +kernel
theorem dX8_mayBoard_8 : decode cX8_mayBoard 8 = .ok (.getfield 16, 3) := by decide +kernel
theorem dX8_mayBoard_11 : decode cX8_mayBoard 11 = .ok (.iload_n 1, 1) := by decide +kernel
theorem dX8_mayBoard_12 : decode cX8_mayBoard 12 = .ok (.aload_n 0, 1) := by decide +kernel
theorem dX8_mayBoard_13 : decode cX8_mayBoard 13 = .ok (.getfield 159, 3) := by decide +kernel
theorem dX8_mayBoard_16 : decode cX8_mayBoard 16 = .ok (.iastore, 1) := by decide +kernel
theorem dX8_mayBoard_17 : decode cX8_mayBoard 17 = .ok (.aload_n 0, 1) := by decide +kernel
theorem dX8_mayBoard_18 : decode cX8_mayBoard 18 = .ok (.aload_n 0, 1) := by decide +kernel
theorem dX8_mayBoard_19 : decode cX8_mayBoard 19 = .ok (.aload_n 0, 1) := by decide +kernel
theorem dX8_mayBoard_20 : decode cX8_mayBoard 20 = .ok (.getfield 159, 3) := by decide +kernel
theorem dX8_mayBoard_23 : decode cX8_mayBoard 23 = .ok (.invokevirtual 101, 3) := by decide +kernel
theorem dX8_mayBoard_26 : decode cX8_mayBoard 26 = .ok (.invokevirtual 218, 3) := by decide +kernel
theorem dX8_mayBoard_29 : decode cX8_mayBoard 29 = .ok (.ifCond .eq 14, 3) := by decide +kernel
theorem dX8_mayBoard_32 : decode cX8_mayBoard 32 = .ok (.aload_n 0, 1) := by decide +kernel
theorem dX8_mayBoard_33 : decode cX8_mayBoard 33 = .ok (.invokevirtual 150, 3) := by decide +kernel
theorem dX8_mayBoard_36 : decode cX8_mayBoard 36 = .ok (.ifCond .eq 7, 3) := by decide +kernel
theorem dX8_mayBoard_39 : decode cX8_mayBoard 39 = .ok (.iconst 1, 1) := by decide +kernel
theorem dX8_mayBoard_40 : decode cX8_mayBoard 40 = .ok (.goto 4, 3) := by decide +kernel
theorem dX8_mayBoard_43 : decode cX8_mayBoard 43 = .ok (.iconst 0, 1) := by decide +kernel
theorem dX8_mayBoard_44 : decode cX8_mayBoard 44 = .ok (.istore_n 3, 1) := by decide +kernel
theorem dX8_mayBoard_45 : decode cX8_mayBoard 45 = .ok (.aload_n 0, 1) := by decide +kernel
theorem dX8_mayBoard_46 : decode cX8_mayBoard 46 = .ok (.getfield 16, 3) := by decide +kernel
theorem dX8_mayBoard_49 : decode cX8_mayBoard 49 = .ok (.iload_n 1, 1) := by decide +kernel
theorem dX8_mayBoard_50 : decode cX8_mayBoard 50 = .ok (.iload_n 2, 1) := by decide +kernel
theorem dX8_mayBoard_51 : decode cX8_mayBoard 51 = .ok (.iastore, 1) := by decide +kernel
theorem dX8_mayBoard_52 : decode cX8_mayBoard 52 = .ok (.iload_n 3, 1) := by decide +kernel
theorem dX8_mayBoard_53 : decode cX8_mayBoard 53 = .ok (.ireturn, 1) := by decide +kernel
theorem dX8_mayLeave_0 : decode cX8_mayLeave 0 = .ok (.aload_n 0, 1) := by decide +kernel
theorem dX8_mayLeave_1 : decode cX8_mayLeave 1 = .ok (.getfield 16, 3) := by decide +kernel
theorem dX8_mayLeave_4 : decode cX8_mayLeave 4 = .ok (.iload_n 1, 1) := by decide +kernel
theorem dX8_mayLeave_5 : decode cX8_mayLeave 5 = .ok (.bipush 13, 2) := by decide +kernel
theorem dX8_mayLeave_7 : decode cX8_mayLeave 7 = .ok (.iastore, 1) := by decide +kernel
theorem dX8_mayLeave_8 : decode cX8_mayLeave 8 = .ok (.aload_n 0, 1) := by decide +kernel
theorem dX8_mayLeave_9 : decode cX8_mayLeave 9 = .ok (.aload_n 0, 1) := by decide +kernel
theorem dX8_mayLeave_10 : decode cX8_mayLeave 10 = .ok (.aload_n 0, 1) := by decide +kernel
theorem dX8_mayLeave_11 : decode cX8_mayLeave 11 = .ok (.getfield 159, 3) := by decide +kernel
theorem dX8_mayLeave_14 : decode cX8_mayLeave 14 = .ok (.invokevirtual 101, 3) := by decide +kernel
theorem dX8_mayLeave_17 : decode cX8_mayLeave 17 = .ok (.invokevirtual 218, 3) := by decide +kernel
theorem dX8_mayLeave_20 : decode cX8_mayLeave 20 = .ok (.ifCond .eq 14, 3) := by decide +kernel
theorem dX8_mayLeave_23 : decode cX8_mayLeave 23 = .ok (.aload_n 0, 1) := by decide +kernel
theorem dX8_mayLeave_24 : decode cX8_mayLeave 24 = .ok (.invokevirtual 150, 3) := by decide +kernel
theorem dX8_mayLeave_27 : decode cX8_mayLeave 27 = .ok (.ifCond .eq 7, 3) := by decide +kernel
theorem dX8_mayLeave_30 : decode cX8_mayLeave 30 = .ok (.iconst 1, 1) := by decide +kernel
theorem dX8_mayLeave_31 : decode cX8_mayLeave 31 = .ok (.goto 4, 3) := by decide +kernel
theorem dX8_mayLeave_34 : decode cX8_mayLeave 34 = .ok (.iconst 0, 1) := by decide +kernel
theorem dX8_mayLeave_35 : decode cX8_mayLeave 35 = .ok (.istore_n 2, 1) := by decide +kernel
theorem dX8_mayLeave_36 : decode cX8_mayLeave 36 = .ok (.aload_n 0, 1) := by decide +kernel
theorem dX8_mayLeave_37 : decode cX8_mayLeave 37 = .ok (.getfield 16, 3) := by decide +kernel
theorem dX8_mayLeave_40 : decode cX8_mayLeave 40 = .ok (.iload_n 1, 1) := by decide +kernel
theorem dX8_mayLeave_41 : decode cX8_mayLeave 41 = .ok (.aload_n 0, 1) := by decide +kernel
theorem dX8_mayLeave_42 : decode cX8_mayLeave 42 = .ok (.getfield 159, 3) := by decide +kernel
theorem dX8_mayLeave_45 : decode cX8_mayLeave 45 = .ok (.iastore, 1) := by decide +kernel
theorem dX8_mayLeave_46 : decode cX8_mayLeave 46 = .ok (.iload_n 2, 1) := by decide +kernel
theorem dX8_mayLeave_47 : decode cX8_mayLeave 47 = .ok (.ireturn, 1) := by decide +kernel
theorem dX8_board_0 : decode cX8_board 0 = .ok (.aload_n 0, 1) := by decide +kernel
theorem dX8_board_1 : decode cX8_board 1 = .ok (.iload_n 1, 1) := by decide +kernel
theorem dX8_board_2 : decode cX8_board 2 = .ok (.invokevirtual 86, 3) := by decide +kernel
theorem dX8_board_5 : decode cX8_board 5 = .ok (.ifCond .eq 14, 3) := by decide +kernel
theorem dX8_board_8 : decode cX8_board 8 = .ok (.aload_n 0, 1) := by decide +kernel
theorem dX8_board_9 : decode cX8_board 9 = .ok (.getfield 16, 3) := by decide +kernel
theorem dX8_board_12 : decode cX8_board 12 = .ok (.iload_n 1, 1) := by decide +kernel
theorem dX8_board_13 : decode cX8_board 13 = .ok (.iaload, 1) := by decide +kernel
theorem dX8_board_14 : decode cX8_board 14 = .ok (.bipush 12, 2) := by decide +kernel
theorem dX8_board_16 : decode cX8_board 16 = .ok (.if_icmp .eq 5, 3) := by decide +kernel
theorem dX8_board_19 : decode cX8_board 19 = .ok (.iconst (-1), 1) := by decide +kernel
theorem dX8_board_20 : decode cX8_board 20 = .ok (.ireturn, 1) := by decide +kernel
theorem dX8_board_21 : decode cX8_board 21 = .ok (.aload_n 0, 1) := by decide +kernel
theorem dX8_board_22 : decode cX8_board 22 = .ok (.iload_n 1, 1) := by decide +kernel
theorem dX8_board_23 : decode cX8_board 23 = .ok (.invokevirtual 221, 3) := by decide +kernel
theorem dX8_board_26 : decode cX8_board 26 = .ok (.ifCond .ne 6, 3) := by decide +kernel
theorem dX8_board_29 : decode cX8_board 29 = .ok (.bipush (-2), 2) := by decide +kernel
theorem dX8_board_31 : decode cX8_board 31 = .ok (.ireturn, 1) := by decide +kernel
theorem dX8_board_32 : decode cX8_board 32 = .ok (.aload_n 0, 1) := by decide +kernel
theorem dX8_board_33 : decode cX8_board 33 = .ok (.getfield 16, 3) := by decide +kernel
theorem dX8_board_36 : decode cX8_board 36 = .ok (.iload_n 1, 1) := by decide +kernel
theorem dX8_board_37 : decode cX8_board 37 = .ok (.aload_n 0, 1) := by decide +kernel
theorem dX8_board_38 : decode cX8_board 38 = .ok (.getfield 159, 3) := by decide +kernel
theorem dX8_board_41 : decode cX8_board 41 = .ok (.iastore, 1) := by decide +kernel
theorem dX8_board_42 : decode cX8_board 42 = .ok (.aload_n 0, 1) := by decide +kernel
theorem dX8_board_43 : decode cX8_board 43 = .ok (.getfield 19, 3) := by decide +kernel
theorem dX8_board_46 : decode cX8_board 46 = .ok (.iload_n 1, 1) := by decide +kernel
theorem dX8_board_47 : decode cX8_board 47 = .ok (.aload_n 0, 1) := by decide +kernel
theorem dX8_board_48 : decode cX8_board 48 = .ok (.getfield 156, 3) := by decide +kernel
theorem dX8_board_51 : decode cX8_board 51 = .ok (.iastore, 1) := by decide +kernel
theorem dX8_board_52 : decode cX8_board 52 = .ok (.aload_n 0, 1) := by decide +kernel
theorem dX8_board_53 : decode cX8_board 53 = .ok (.aload_n 0, 1) := by decide +kernel
theorem dX8_board_54 : decode cX8_board 54 = .ok (.aload_n 0, 1) := by decide +kernel
theorem dX8_board_55 : decode cX8_board 55 = .ok (.getfield 159, 3) := by decide +kernel
theorem dX8_board_58 : decode cX8_board 58 = .ok (.invokevirtual 101, 3) := by decide +kernel
theorem dX8_board_61 : decode cX8_board 61 = .ok (.invokevirtual 94, 3) := by decide +kernel
theorem dX8_board_64 : decode cX8_board 64 = .ok (.ireturn, 1) := by decide +kernel
theorem dX8_leave_0 : decode cX8_leave 0 = .ok (.aload_n 0, 1) := by decide +kernel
theorem dX8_leave_1 : decode cX8_leave 1 = .ok (.iload_n 1, 1) := by decide +kernel
theorem dX8_leave_2 : decode cX8_leave 2 = .ok (.invokevirtual 86, 3) := by decide +kernel
theorem dX8_leave_5 : decode cX8_leave 5 = .ok (.ifCond .eq 16, 3) := by decide +kernel
theorem dX8_leave_8 : decode cX8_leave 8 = .ok (.aload_n 0, 1) := by decide +kernel
theorem dX8_leave_9 : decode cX8_leave 9 = .ok (.getfield 16, 3) := by decide +kernel
theorem dX8_leave_12 : decode cX8_leave 12 = .ok (.iload_n 1, 1) := by decide +kernel
theorem dX8_leave_13 : decode cX8_leave 13 = .ok (.iaload, 1) := by decide +kernel
theorem dX8_leave_14 : decode cX8_leave 14 = .ok (.aload_n 0, 1) := by decide +kernel
theorem dX8_leave_15 : decode cX8_leave 15 = .ok (.getfield 159, 3) := by decide +kernel
theorem dX8_leave_18 : decode cX8_leave 18 = .ok (.if_icmp .eq 5, 3) := by decide +kernel
theorem dX8_leave_21 : decode cX8_leave 21 = .ok (.iconst (-1), 1) := by decide +kernel
theorem dX8_leave_22 : decode cX8_leave 22 = .ok (.ireturn, 1) := by decide +kernel
theorem dX8_leave_23 : decode cX8_leave 23 = .ok (.aload_n 0, 1) := by decide +kernel
theorem dX8_leave_24 : decode cX8_leave 24 = .ok (.iload_n 1, 1) := by decide +kernel
theorem dX8_leave_25 : decode cX8_leave 25 = .ok (.invokevirtual 224, 3) := by decide +kernel
theorem dX8_leave_28 : decode cX8_leave 28 = .ok (.ifCond .ne 6, 3) := by decide +kernel
theorem dX8_leave_31 : decode cX8_leave 31 = .ok (.bipush (-2), 2) := by decide +kernel
theorem dX8_leave_33 : decode cX8_leave 33 = .ok (.ireturn, 1) := by decide +kernel
theorem dX8_leave_34 : decode cX8_leave 34 = .ok (.aload_n 0, 1) := by decide +kernel
theorem dX8_leave_35 : decode cX8_leave 35 = .ok (.getfield 16, 3) := by decide +kernel
theorem dX8_leave_38 : decode cX8_leave 38 = .ok (.iload_n 1, 1) := by decide +kernel
theorem dX8_leave_39 : decode cX8_leave 39 = .ok (.bipush 13, 2) := by decide +kernel
theorem dX8_leave_41 : decode cX8_leave 41 = .ok (.iastore, 1) := by decide +kernel
theorem dX8_leave_42 : decode cX8_leave 42 = .ok (.aload_n 0, 1) := by decide +kernel
theorem dX8_leave_43 : decode cX8_leave 43 = .ok (.getfield 156, 3) := by decide +kernel
theorem dX8_leave_46 : decode cX8_leave 46 = .ok (.aload_n 0, 1) := by decide +kernel
theorem dX8_leave_47 : decode cX8_leave 47 = .ok (.getfield 19, 3) := by decide +kernel
theorem dX8_leave_50 : decode cX8_leave 50 = .ok (.iload_n 1, 1) := by decide +kernel
theorem dX8_leave_51 : decode cX8_leave 51 = .ok (.iaload, 1) := by decide +kernel
theorem dX8_leave_52 : decode cX8_leave 52 = .ok (.isub, 1) := by decide +kernel
theorem dX8_leave_53 : decode cX8_leave 53 = .ok (.ireturn, 1) := by decide +kernel
theorem dX8_sand_0 : decode cX8_sand 0 = .ok (.iload_n 1, 1) := by decide +kernel
theorem dX8_sand_1 : decode cX8_sand 1 = .ok (.i2l, 1) := by decide +kernel
theorem dX8_sand_2 : decode cX8_sand 2 = .ok (.lconst 0, 1) := by decide +kernel
theorem dX8_sand_3 : decode cX8_sand 3 = .ok (.ldc2_w 80, 3) := by decide +kernel
theorem dX8_sand_6 : decode cX8_sand 6 = .ok (.invokestatic 72, 3) := by decide +kernel
theorem dX8_sand_9 : decode cX8_sand 9 = .ok (.ifCond .ne 5, 3) := by decide +kernel
theorem dX8_sand_12 : decode cX8_sand 12 = .ok (.iconst (-1), 1) := by decide +kernel
theorem dX8_sand_13 : decode cX8_sand 13 = .ok (.ireturn, 1) := by decide +kernel
theorem dX8_sand_14 : decode cX8_sand 14 = .ok (.aload_n 0, 1) := by decide +kernel
theorem dX8_sand_15 : decode cX8_sand 15 = .ok (.getfield 22, 3) := by decide +kernel
theorem dX8_sand_18 : decode cX8_sand 18 = .ok (.aload_n 0, 1) := by decide +kernel
theorem dX8_sand_19 : decode cX8_sand 19 = .ok (.getfield 159, 3) := by decide +kernel
theorem dX8_sand_22 : decode cX8_sand 22 = .ok (.iaload, 1) := by decide +kernel
theorem dX8_sand_23 : decode cX8_sand 23 = .ok (.istore_n 2, 1) := by decide +kernel
theorem dX8_sand_24 : decode cX8_sand 24 = .ok (.aload_n 0, 1) := by decide +kernel
theorem dX8_sand_25 : decode cX8_sand 25 = .ok (.getfield 22, 3) := by decide +kernel
theorem dX8_sand_28 : decode cX8_sand 28 = .ok (.aload_n 0, 1) := by decide +kernel
theorem dX8_sand_29 : decode cX8_sand 29 = .ok (.getfield 159, 3) := by decide +kernel
theorem dX8_sand_32 : decode cX8_sand 32 = .ok (.iload_n 1, 1) := by decide +kernel
theorem dX8_sand_33 : decode cX8_sand 33 = .ok (.iastore, 1) := by decide +kernel
theorem dX8_sand_34 : decode cX8_sand 34 = .ok (.aload_n 0, 1) := by decide +kernel
theorem dX8_sand_35 : decode cX8_sand 35 = .ok (.invokevirtual 150, 3) := by decide +kernel
theorem dX8_sand_38 : decode cX8_sand 38 = .ok (.ifCond .ne 16, 3) := by decide +kernel
theorem dX8_sand_41 : decode cX8_sand 41 = .ok (.aload_n 0, 1) := by decide +kernel
theorem dX8_sand_42 : decode cX8_sand 42 = .ok (.getfield 22, 3) := by decide +kernel
theorem dX8_sand_45 : decode cX8_sand 45 = .ok (.aload_n 0, 1) := by decide +kernel
theorem dX8_sand_46 : decode cX8_sand 46 = .ok (.getfield 159, 3) := by decide +kernel
theorem dX8_sand_49 : decode cX8_sand 49 = .ok (.iload_n 2, 1) := by decide +kernel
theorem dX8_sand_50 : decode cX8_sand 50 = .ok (.iastore, 1) := by decide +kernel
theorem dX8_sand_51 : decode cX8_sand 51 = .ok (.bipush (-2), 2) := by decide +kernel
theorem dX8_sand_53 : decode cX8_sand 53 = .ok (.ireturn, 1) := by decide +kernel
theorem dX8_sand_54 : decode cX8_sand 54 = .ok (.iload_n 2, 1) := by decide +kernel
theorem dX8_sand_55 : decode cX8_sand 55 = .ok (.ireturn, 1) := by decide +kernel
theorem dX8_turn_0 : decode cX8_turn 0 = .ok (.iload_n 1, 1) := by decide +kernel
theorem dX8_turn_1 : decode cX8_turn 1 = .ok (.i2l, 1) := by decide +kernel
theorem dX8_turn_2 : decode cX8_turn 2 = .ok (.lconst 1, 1) := by decide +kernel
theorem dX8_turn_3 : decode cX8_turn 3 = .ok (.ldc2_w 227, 3) := by decide +kernel
theorem dX8_turn_6 : decode cX8_turn 6 = .ok (.invokestatic 72, 3) := by decide +kernel
theorem dX8_turn_9 : decode cX8_turn 9 = .ok (.ifCond .ne 5, 3) := by decide +kernel
theorem dX8_turn_12 : decode cX8_turn 12 = .ok (.iconst (-1), 1) := by decide +kernel
theorem dX8_turn_13 : decode cX8_turn 13 = .ok (.ireturn, 1) := by decide +kernel
theorem dX8_turn_14 : decode cX8_turn 14 = .ok (.aload_n 0, 1) := by decide +kernel
theorem dX8_turn_15 : decode cX8_turn 15 = .ok (.getfield 156, 3) := by decide +kernel
theorem dX8_turn_18 : decode cX8_turn 18 = .ok (.iload_n 1, 1) := by decide +kernel
theorem dX8_turn_19 : decode cX8_turn 19 = .ok (.iadd, 1) := by decide +kernel
theorem dX8_turn_20 : decode cX8_turn 20 = .ok (.sipush 999, 3) := by decide +kernel
theorem dX8_turn_23 : decode cX8_turn 23 = .ok (.if_icmp .le 6, 3) := by decide +kernel
theorem dX8_turn_26 : decode cX8_turn 26 = .ok (.bipush (-3), 2) := by decide +kernel
theorem dX8_turn_28 : decode cX8_turn 28 = .ok (.ireturn, 1) := by decide +kernel
theorem dX8_turn_29 : decode cX8_turn 29 = .ok (.aload_n 0, 1) := by decide +kernel
theorem dX8_turn_30 : decode cX8_turn 30 = .ok (.dup, 1) := by decide +kernel
theorem dX8_turn_31 : decode cX8_turn 31 = .ok (.getfield 156, 3) := by decide +kernel
theorem dX8_turn_34 : decode cX8_turn 34 = .ok (.iload_n 1, 1) := by decide +kernel
theorem dX8_turn_35 : decode cX8_turn 35 = .ok (.iadd, 1) := by decide +kernel
theorem dX8_turn_36 : decode cX8_turn 36 = .ok (.putfield 156, 3) := by decide +kernel
theorem dX8_turn_39 : decode cX8_turn 39 = .ok (.aload_n 0, 1) := by decide +kernel
theorem dX8_turn_40 : decode cX8_turn 40 = .ok (.aload_n 0, 1) := by decide +kernel
theorem dX8_turn_41 : decode cX8_turn 41 = .ok (.getfield 159, 3) := by decide +kernel
theorem dX8_turn_44 : decode cX8_turn 44 = .ok (.iload_n 1, 1) := by decide +kernel
theorem dX8_turn_45 : decode cX8_turn 45 = .ok (.iadd, 1) := by decide +kernel
theorem dX8_turn_46 : decode cX8_turn 46 = .ok (.bipush 12, 2) := by decide +kernel
theorem dX8_turn_48 : decode cX8_turn 48 = .ok (.irem, 1) := by decide +kernel
theorem dX8_turn_49 : decode cX8_turn 49 = .ok (.putfield 159, 3) := by decide +kernel
theorem dX8_turn_52 : decode cX8_turn 52 = .ok (.aload_n 0, 1) := by decide +kernel
theorem dX8_turn_53 : decode cX8_turn 53 = .ok (.getfield 156, 3) := by decide +kernel
theorem dX8_turn_56 : decode cX8_turn 56 = .ok (.ireturn, 1) := by decide +kernel
theorem dX8_may_0 : decode cX8_may 0 = .ok (.iload_n 1, 1) := by decide +kernel
theorem dX8_may_1 : decode cX8_may 1 = .ok (.i2l, 1) := by decide +kernel
theorem dX8_may_2 : decode cX8_may 2 = .ok (.lconst 0, 1) := by decide +kernel
theorem dX8_may_3 : decode cX8_may 3 = .ok (.lconst 1, 1) := by decide +kernel
theorem dX8_may_4 : decode cX8_may 4 = .ok (.invokestatic 72, 3) := by decide +kernel
theorem dX8_may_7 : decode cX8_may 7 = .ok (.ifCond .ne 5, 3) := by decide +kernel
theorem dX8_may_10 : decode cX8_may 10 = .ok (.iconst (-1), 1) := by decide +kernel
theorem dX8_may_11 : decode cX8_may 11 = .ok (.ireturn, 1) := by decide +kernel
theorem dX8_may_12 : decode cX8_may 12 = .ok (.iconst 0, 1) := by decide +kernel
theorem dX8_may_13 : decode cX8_may 13 = .ok (.istore_n 2, 1) := by decide +kernel
theorem dX8_may_14 : decode cX8_may 14 = .ok (.iconst 0, 1) := by decide +kernel
theorem dX8_may_15 : decode cX8_may 15 = .ok (.istore_n 3, 1) := by decide +kernel
theorem dX8_may_16 : decode cX8_may 16 = .ok (.iload_n 3, 1) := by decide +kernel
theorem dX8_may_17 : decode cX8_may 17 = .ok (.aload_n 0, 1) := by decide +kernel
theorem dX8_may_18 : decode cX8_may 18 = .ok (.getfield 69, 3) := by decide +kernel
theorem dX8_may_21 : decode cX8_may 21 = .ok (.if_icmp .ge 83, 3) := by decide +kernel
theorem dX8_may_24 : decode cX8_may 24 = .ok (.iload_n 1, 1) := by decide +kernel
theorem dX8_may_25 : decode cX8_may 25 = .ok (.ifCond .ne 30, 3) := by decide +kernel
theorem dX8_may_28 : decode cX8_may 28 = .ok (.aload_n 0, 1) := by decide +kernel
theorem dX8_may_29 : decode cX8_may 29 = .ok (.getfield 16, 3) := by decide +kernel
theorem dX8_may_32 : decode cX8_may 32 = .ok (.iload_n 3, 1) := by decide +kernel
theorem dX8_may_33 : decode cX8_may 33 = .ok (.iaload, 1) := by decide +kernel
theorem dX8_may_34 : decode cX8_may 34 = .ok (.bipush 12, 2) := by decide +kernel
theorem dX8_may_36 : decode cX8_may 36 = .ok (.if_icmp .ne 15, 3) := by decide +kernel
theorem dX8_may_39 : decode cX8_may 39 = .ok (.aload_n 0, 1) := by decide +kernel
theorem dX8_may_40 : decode cX8_may 40 = .ok (.iload_n 3, 1) := by decide +kernel
theorem dX8_may_41 : decode cX8_may 41 = .ok (.invokevirtual 221, 3) := by decide +kernel
theorem dX8_may_44 : decode cX8_may 44 = .ok (.ifCond .eq 7, 3) := by decide +kernel
theorem dX8_may_47 : decode cX8_may 47 = .ok (.iconst 1, 1) := by decide +kernel
theorem dX8_may_48 : decode cX8_may 48 = .ok (.goto 33, 3) := by decide +kernel
theorem dX8_may_51 : decode cX8_may 51 = .ok (.iconst 0, 1) := by decide +kernel
theorem dX8_may_52 : decode cX8_may 52 = .ok (.goto 29, 3) := by decide +kernel
theorem dX8_may_55 : decode cX8_may 55 = .ok (.aload_n 0, 1) := by decide +kernel
theorem dX8_may_56 : decode cX8_may 56 = .ok (.getfield 16, 3) := by decide +kernel
theorem dX8_may_59 : decode cX8_may 59 = .ok (.iload_n 3, 1) := by decide +kernel
theorem dX8_may_60 : decode cX8_may 60 = .ok (.iaload, 1) := by decide +kernel
theorem dX8_may_61 : decode cX8_may 61 = .ok (.aload_n 0, 1) := by decide +kernel
theorem dX8_may_62 : decode cX8_may 62 = .ok (.getfield 159, 3) := by decide +kernel
theorem dX8_may_65 : decode cX8_may 65 = .ok (.if_icmp .ne 15, 3) := by decide +kernel
theorem dX8_may_68 : decode cX8_may 68 = .ok (.aload_n 0, 1) := by decide +kernel
theorem dX8_may_69 : decode cX8_may 69 = .ok (.iload_n 3, 1) := by decide +kernel
theorem dX8_may_70 : decode cX8_may 70 = .ok (.invokevirtual 224, 3) := by decide +kernel
theorem dX8_may_73 : decode cX8_may 73 = .ok (.ifCond .eq 7, 3) := by decide +kernel
theorem dX8_may_76 : decode cX8_may 76 = .ok (.iconst 1, 1) := by decide +kernel
theorem dX8_may_77 : decode cX8_may 77 = .ok (.goto 4, 3) := by decide +kernel
theorem dX8_may_80 : decode cX8_may 80 = .ok (.iconst 0, 1) := by decide +kernel
theorem dX8_may_81 : decode cX8_may 81 = .ok (.istore 4, 2) := by decide +kernel
theorem dX8_may_83 : decode cX8_may 83 = .ok (.iload_n 2, 1) := by decide +kernel
theorem dX8_may_84 : decode cX8_may 84 = .ok (.iload 4, 2) := by decide +kernel
theorem dX8_may_86 : decode cX8_may 86 = .ok (.ifCond .eq 9, 3) := by decide +kernel
theorem dX8_may_89 : decode cX8_may 89 = .ok (.iconst 1, 1) := by decide +kernel
theorem dX8_may_90 : decode cX8_may 90 = .ok (.iload_n 3, 1) := by decide +kernel
theorem dX8_may_91 : decode cX8_may 91 = .ok (.ishl, 1) := by decide +kernel
theorem dX8_may_92 : decode cX8_may 92 = .ok (.goto 4, 3) := by decide +kernel
theorem dX8_may_95 : decode cX8_may 95 = .ok (.iconst 0, 1) := by decide +kernel
theorem dX8_may_96 : decode cX8_may 96 = .ok (.ior, 1) := by decide +kernel
theorem dX8_may_97 : decode cX8_may 97 = .ok (.istore_n 2, 1) := by decide +kernel
theorem dX8_may_98 : decode cX8_may 98 = .ok (.iinc 3 1, 3) := by decide +kernel
theorem dX8_may_101 : decode cX8_may 101 = .ok (.goto (-85), 3) := by decide +kernel
theorem dX8_may_104 : decode cX8_may 104 = .ok (.iload_n 2, 1) := by decide +kernel
theorem dX8_may_105 : decode cX8_may 105 = .ok (.ireturn, 1) := by decide +kernel
theorem dX8_ones_0 : decode cX8_ones 0 = .ok (.iconst 0, 1) := by decide +kernel
theorem dX8_ones_1 : decode cX8_ones 1 = .ok (.istore_n 1, 1) := by decide +kernel
theorem dX8_ones_2 : decode cX8_ones 2 = .ok (.iload_n 0, 1) := by decide +kernel
theorem dX8_ones_3 : decode cX8_ones 3 = .ok (.istore_n 2, 1) := by decide +kernel
theorem dX8_ones_4 : decode cX8_ones 4 = .ok (.iload_n 2, 1) := by decide +kernel
theorem dX8_ones_5 : decode cX8_ones 5 = .ok (.ifCond .eq 15, 3) := by decide +kernel
theorem dX8_ones_8 : decode cX8_ones 8 = .ok (.iinc 1 1, 3) := by decide +kernel
theorem dX8_ones_11 : decode cX8_ones 11 = .ok (.iload_n 2, 1) := by decide +kernel
theorem dX8_ones_12 : decode cX8_ones 12 = .ok (.iload_n 2, 1) := by decide +kernel
theorem dX8_ones_13 : decode cX8_ones 13 = .ok (.iconst 1, 1) := by decide +kernel
theorem dX8_ones_14 : decode cX8_ones 14 = .ok (.isub, 1) := by decide +kernel
theorem dX8_ones_15 : decode cX8_ones 15 = .ok (.iand, 1) := by decide +kernel
theorem dX8_ones_16 : decode cX8_ones 16 = .ok (.istore_n 2, 1) := by decide +kernel
theorem dX8_ones_17 : decode cX8_ones 17 = .ok (.goto (-13), 3) := by decide +kernel
theorem dX8_ones_20 : decode cX8_ones 20 = .ok (.iload_n 1, 1) := by decide +kernel
theorem dX8_ones_21 : decode cX8_ones 21 = .ok (.ireturn, 1) := by decide +kernel
theorem dX8_isAllIn_0 : decode cX8_isAllIn 0 = .ok (.iload_n 1, 1) := by decide +kernel
theorem dX8_isAllIn_1 : decode cX8_isAllIn 1 = .ok (.ifCond .le 49, 3) := by decide +kernel
theorem dX8_isAllIn_4 : decode cX8_isAllIn 4 = .ok (.iload_n 1, 1) := by decide +kernel
theorem dX8_isAllIn_5 : decode cX8_isAllIn 5 = .ok (.iconst 1, 1) := by decide +kernel
theorem dX8_isAllIn_6 : decode cX8_isAllIn 6 = .ok (.aload_n 0, 1) := by decide +kernel
theorem dX8_isAllIn_7 : decode cX8_isAllIn 7 = .ok (.getfield 69, 3) := by decide +kernel
theorem dX8_isAllIn_10 : decode cX8_isAllIn 10 = .ok (.ishl, 1) := by decide +kernel
theorem dX8_isAllIn_11 : decode cX8_isAllIn 11 = .ok (.if_icmp .ge 39, 3) := by decide +kernel
theorem dX8_isAllIn_14 : decode cX8_isAllIn 14 = .ok (.iload_n 1, 1) := by decide +kernel
theorem dX8_isAllIn_15 : decode cX8_isAllIn 15 = .ok (.invokestatic 229, 3) := by decide +kernel
theorem dX8_isAllIn_18 : decode cX8_isAllIn 18 = .ok (.iconst 4, 1) := by decide +kernel
theorem dX8_isAllIn_19 : decode cX8_isAllIn 19 = .ok (.if_icmp .gt 31, 3) := by decide +kernel
theorem dX8_isAllIn_22 : decode cX8_isAllIn 22 = .ok (.aload_n 0, 1) := by decide +kernel
theorem dX8_isAllIn_23 : decode cX8_isAllIn 23 = .ok (.bipush 12, 2) := by decide +kernel
theorem dX8_isAllIn_25 : decode cX8_isAllIn 25 = .ok (.invokevirtual 101, 3) := by decide +kernel
theorem dX8_isAllIn_28 : decode cX8_isAllIn 28 = .ok (.iload_n 1, 1) := by decide +kernel
theorem dX8_isAllIn_29 : decode cX8_isAllIn 29 = .ok (.iand, 1) := by decide +kernel
theorem dX8_isAllIn_30 : decode cX8_isAllIn 30 = .ok (.iload_n 1, 1) := by decide +kernel
theorem dX8_isAllIn_31 : decode cX8_isAllIn 31 = .ok (.if_icmp .ne 19, 3) := by decide +kernel
theorem dX8_isAllIn_34 : decode cX8_isAllIn 34 = .ok (.iload_n 2, 1) := by decide +kernel
theorem dX8_isAllIn_35 : decode cX8_isAllIn 35 = .ok (.i2l, 1) := by decide +kernel
theorem dX8_isAllIn_36 : decode cX8_isAllIn 36 = .ok (.lconst 0, 1) := by decide +kernel
theorem dX8_isAllIn_37 : decode cX8_isAllIn 37 = .ok (.ldc2_w 127, 3) := by decide +kernel
theorem dX8_isAllIn_40 : decode cX8_isAllIn 40 = .ok (.invokestatic 72, 3) := by decide +kernel
theorem dX8_isAllIn_43 : decode cX8_isAllIn 43 = .ok (.ifCond .eq 7, 3) := by decide +kernel
theorem dX8_isAllIn_46 : decode cX8_isAllIn 46 = .ok (.iconst 1, 1) := by decide +kernel
theorem dX8_isAllIn_47 : decode cX8_isAllIn 47 = .ok (.goto 4, 3) := by decide +kernel
theorem dX8_isAllIn_50 : decode cX8_isAllIn 50 = .ok (.iconst 0, 1) := by decide +kernel
theorem dX8_isAllIn_51 : decode cX8_isAllIn 51 = .ok (.ireturn, 1) := by decide +kernel
theorem dX8_areSo_0 : decode cX8_areSo 0 = .ok (.iconst 1, 1) := by decide +kernel
theorem dX8_areSo_1 : decode cX8_areSo 1 = .ok (.istore_n 2, 1) := by decide +kernel
theorem dX8_areSo_2 : decode cX8_areSo 2 = .ok (.iconst 1, 1) := by decide +kernel
theorem dX8_areSo_3 : decode cX8_areSo 3 = .ok (.istore_n 3, 1) := by decide +kernel
theorem dX8_areSo_4 : decode cX8_areSo 4 = .ok (.iload_n 3, 1) := by decide +kernel
theorem dX8_areSo_5 : decode cX8_areSo 5 = .ok (.aload_n 0, 1) := by decide +kernel
theorem dX8_areSo_6 : decode cX8_areSo 6 = .ok (.getfield 232, 3) := by decide +kernel
theorem dX8_areSo_9 : decode cX8_areSo 9 = .ok (.if_icmp .ge 65, 3) := by decide +kernel
theorem dX8_areSo_12 : decode cX8_areSo 12 = .ok (.iload_n 2, 1) := by decide +kernel
theorem dX8_areSo_13 : decode cX8_areSo 13 = .ok (.ifCond .eq 53, 3) := by decide +kernel
theorem dX8_areSo_16 : decode cX8_areSo 16 = .ok (.iload_n 1, 1) := by decide +kernel
theorem dX8_areSo_17 : decode cX8_areSo 17 = .ok (.ifCond .eq 45, 3) := by decide +kernel
theorem dX8_areSo_20 : decode cX8_areSo 20 = .ok (.iload_n 1, 1) := by decide +kernel
theorem dX8_areSo_21 : decode cX8_areSo 21 = .ok (.iconst 1, 1) := by decide +kernel
theorem dX8_areSo_22 : decode cX8_areSo 22 = .ok (.if_icmp .ne 23, 3) := by decide +kernel
theorem dX8_areSo_25 : decode cX8_areSo 25 = .ok (.aload_n 0, 1) := by decide +kernel
theorem dX8_areSo_26 : decode cX8_areSo 26 = .ok (.getfield 41, 3) := by decide +kernel
theorem dX8_areSo_29 : decode cX8_areSo 29 = .ok (.iload_n 3, 1) := by decide +kernel
theorem dX8_areSo_30 : decode cX8_areSo 30 = .ok (.iaload, 1) := by decide +kernel
theorem dX8_areSo_31 : decode cX8_areSo 31 = .ok (.aload_n 0, 1) := by decide +kernel
theorem dX8_areSo_32 : decode cX8_areSo 32 = .ok (.getfield 41, 3) := by decide +kernel
theorem dX8_areSo_35 : decode cX8_areSo 35 = .ok (.iload_n 3, 1) := by decide +kernel
theorem dX8_areSo_36 : decode cX8_areSo 36 = .ok (.iconst 1, 1) := by decide +kernel
theorem dX8_areSo_37 : decode cX8_areSo 37 = .ok (.isub, 1) := by decide +kernel
theorem dX8_areSo_38 : decode cX8_areSo 38 = .ok (.iaload, 1) := by decide +kernel
theorem dX8_areSo_39 : decode cX8_areSo 39 = .ok (.if_icmp .lt 27, 3) := by decide +kernel
theorem dX8_areSo_42 : decode cX8_areSo 42 = .ok (.goto 20, 3) := by decide +kernel
theorem dX8_areSo_45 : decode cX8_areSo 45 = .ok (.aload_n 0, 1) := by decide +kernel
theorem dX8_areSo_46 : decode cX8_areSo 46 = .ok (.getfield 41, 3) := by decide +kernel
theorem dX8_areSo_49 : decode cX8_areSo 49 = .ok (.iload_n 3, 1) := by decide +kernel
theorem dX8_areSo_50 : decode cX8_areSo 50 = .ok (.iaload, 1) := by decide +kernel
theorem dX8_areSo_51 : decode cX8_areSo 51 = .ok (.aload_n 0, 1) := by decide +kernel
theorem dX8_areSo_52 : decode cX8_areSo 52 = .ok (.getfield 41, 3) := by decide +kernel
theorem dX8_areSo_55 : decode cX8_areSo 55 = .ok (.iload_n 3, 1) := by decide +kernel
theorem dX8_areSo_56 : decode cX8_areSo 56 = .ok (.iconst 1, 1) := by decide +kernel
theorem dX8_areSo_57 : decode cX8_areSo 57 = .ok (.isub, 1) := by decide +kernel
theorem dX8_areSo_58 : decode cX8_areSo 58 = .ok (.iaload, 1) := by decide +kernel
theorem dX8_areSo_59 : decode cX8_areSo 59 = .ok (.if_icmp .ne 7, 3) := by decide +kernel
theorem dX8_areSo_62 : decode cX8_areSo 62 = .ok (.iconst 1, 1) := by decide +kernel
theorem dX8_areSo_63 : decode cX8_areSo 63 = .ok (.goto 4, 3) := by decide +kernel
theorem dX8_areSo_66 : decode cX8_areSo 66 = .ok (.iconst 0, 1) := by decide +kernel
theorem dX8_areSo_67 : decode cX8_areSo 67 = .ok (.istore_n 2, 1) := by decide +kernel
theorem dX8_areSo_68 : decode cX8_areSo 68 = .ok (.iinc 3 1, 3) := by decide +kernel
theorem dX8_areSo_71 : decode cX8_areSo 71 = .ok (.goto (-67), 3) := by decide +kernel
theorem dX8_areSo_74 : decode cX8_areSo 74 = .ok (.iload_n 2, 1) := by decide +kernel
theorem dX8_areSo_75 : decode cX8_areSo 75 = .ok (.ireturn, 1) := by decide +kernel
theorem dX8_canBoard_0 : decode cX8_canBoard 0 = .ok (.aload_n 0, 1) := by decide +kernel
theorem dX8_canBoard_1 : decode cX8_canBoard 1 = .ok (.invokevirtual 141, 3) := by decide +kernel
theorem dX8_canBoard_4 : decode cX8_canBoard 4 = .ok (.iconst 1, 1) := by decide +kernel
theorem dX8_canBoard_5 : decode cX8_canBoard 5 = .ok (.istore_n 1, 1) := by decide +kernel
theorem dX8_canBoard_6 : decode cX8_canBoard 6 = .ok (.iconst 0, 1) := by decide +kernel
theorem dX8_canBoard_7 : decode cX8_canBoard 7 = .ok (.istore_n 2, 1) := by decide +kernel
theorem dX8_canBoard_8 : decode cX8_canBoard 8 = .ok (.iload_n 2, 1) := by decide +kernel
theorem dX8_canBoard_9 : decode cX8_canBoard 9 = .ok (.bipush 12, 2) := by decide +kernel
theorem dX8_canBoard_11 : decode cX8_canBoard 11 = .ok (.if_icmp .ge 118, 3) := by decide +kernel
theorem dX8_canBoard_14 : decode cX8_canBoard 14 = .ok (.iload_n 1, 1) := by decide +kernel
theorem dX8_canBoard_15 : decode cX8_canBoard 15 = .ok (.ifCond .eq 114, 3) := by decide +kernel
theorem dX8_canBoard_18 : decode cX8_canBoard 18 = .ok (.iconst 0, 1) := by decide +kernel
theorem dX8_canBoard_19 : decode cX8_canBoard 19 = .ok (.istore_n 3, 1) := by decide +kernel
theorem dX8_canBoard_20 : decode cX8_canBoard 20 = .ok (.iconst 0, 1) := by decide +kernel
theorem dX8_canBoard_21 : decode cX8_canBoard 21 = .ok (.istore 4, 2) := by decide +kernel
theorem dX8_canBoard_23 : decode cX8_canBoard 23 = .ok (.iload 4, 2) := by decide +kernel
theorem dX8_canBoard_25 : decode cX8_canBoard 25 = .ok (.aload_n 0, 1) := by decide +kernel
theorem dX8_canBoard_26 : decode cX8_canBoard 26 = .ok (.getfield 232, 3) := by decide +kernel
theorem dX8_canBoard_29 : decode cX8_canBoard 29 = .ok (.if_icmp .ge 36, 3) := by decide +kernel
theorem dX8_canBoard_32 : decode cX8_canBoard 32 = .ok (.iload_n 3, 1) := by decide +kernel
theorem dX8_canBoard_33 : decode cX8_canBoard 33 = .ok (.aload_n 0, 1) := by decide +kernel
theorem dX8_canBoard_34 : decode cX8_canBoard 34 = .ok (.getfield 41, 3) := by decide +kernel
theorem dX8_canBoard_37 : decode cX8_canBoard 37 = .ok (.iload 4, 2) := by decide +kernel
theorem dX8_canBoard_39 : decode cX8_canBoard 39 = .ok (.iaload, 1) := by decide +kernel
theorem dX8_canBoard_40 : decode cX8_canBoard 40 = .ok (.iload_n 2, 1) := by decide +kernel
theorem dX8_canBoard_41 : decode cX8_canBoard 41 = .ok (.if_icmp .ne 15, 3) := by decide +kernel
theorem dX8_canBoard_44 : decode cX8_canBoard 44 = .ok (.iconst 1, 1) := by decide +kernel
theorem dX8_canBoard_45 : decode cX8_canBoard 45 = .ok (.aload_n 0, 1) := by decide +kernel
theorem dX8_canBoard_46 : decode cX8_canBoard 46 = .ok (.getfield 38, 3) := by decide +kernel
theorem dX8_canBoard_49 : decode cX8_canBoard 49 = .ok (.iload 4, 2) := by decide +kernel
theorem dX8_canBoard_51 : decode cX8_canBoard 51 = .ok (.iaload, 1) := by decide +kernel
theorem dX8_canBoard_52 : decode cX8_canBoard 52 = .ok (.ishl, 1) := by decide +kernel
theorem dX8_canBoard_53 : decode cX8_canBoard 53 = .ok (.goto 4, 3) := by decide +kernel
theorem dX8_canBoard_56 : decode cX8_canBoard 56 = .ok (.iconst 0, 1) := by decide +kernel
theorem dX8_canBoard_57 : decode cX8_canBoard 57 = .ok (.ior, 1) := by decide +kernel
theorem dX8_canBoard_58 : decode cX8_canBoard 58 = .ok (.istore_n 3, 1) := by decide +kernel
theorem dX8_canBoard_59 : decode cX8_canBoard 59 = .ok (.iinc 4 1, 3) := by decide +kernel
theorem dX8_canBoard_62 : decode cX8_canBoard 62 = .ok (.goto (-39), 3) := by decide +kernel
theorem dX8_canBoard_65 : decode cX8_canBoard 65 = .ok (.iload_n 3, 1) := by decide +kernel
theorem dX8_canBoard_66 : decode cX8_canBoard 66 = .ok (.ifCond .eq 57, 3) := by decide +kernel
theorem dX8_canBoard_69 : decode cX8_canBoard 69 = .ok (.aload_n 0, 1) := by decide +kernel
theorem dX8_canBoard_70 : decode cX8_canBoard 70 = .ok (.getfield 159, 3) := by decide +kernel
theorem dX8_canBoard_73 : decode cX8_canBoard 73 = .ok (.iload_n 2, 1) := by decide +kernel
theorem dX8_canBoard_74 : decode cX8_canBoard 74 = .ok (.iadd, 1) := by decide +kernel
theorem dX8_canBoard_75 : decode cX8_canBoard 75 = .ok (.bipush 12, 2) := by decide +kernel
theorem dX8_canBoard_77 : decode cX8_canBoard 77 = .ok (.irem, 1) := by decide +kernel
theorem dX8_canBoard_78 : decode cX8_canBoard 78 = .ok (.istore 4, 2) := by decide +kernel
theorem dX8_canBoard_80 : decode cX8_canBoard 80 = .ok (.aload_n 0, 1) := by decide +kernel
theorem dX8_canBoard_81 : decode cX8_canBoard 81 = .ok (.getfield 29, 3) := by decide +kernel
theorem dX8_canBoard_84 : decode cX8_canBoard 84 = .ok (.iload 4, 2) := by decide +kernel
theorem dX8_canBoard_86 : decode cX8_canBoard 86 = .ok (.dup2, 1) := by decide +kernel
theorem dX8_canBoard_87 : decode cX8_canBoard 87 = .ok (.iaload, 1) := by decide +kernel
theorem dX8_canBoard_88 : decode cX8_canBoard 88 = .ok (.aload_n 0, 1) := by decide +kernel
theorem dX8_canBoard_89 : decode cX8_canBoard 89 = .ok (.iload_n 3, 1) := by decide +kernel
theorem dX8_canBoard_90 : decode cX8_canBoard 90 = .ok (.invokevirtual 104, 3) := by decide +kernel
theorem dX8_canBoard_93 : decode cX8_canBoard 93 = .ok (.iadd, 1) := by decide +kernel
theorem dX8_canBoard_94 : decode cX8_canBoard 94 = .ok (.iastore, 1) := by decide +kernel
theorem dX8_canBoard_95 : decode cX8_canBoard 95 = .ok (.aload_n 0, 1) := by decide +kernel
theorem dX8_canBoard_96 : decode cX8_canBoard 96 = .ok (.aload_n 0, 1) := by decide +kernel
theorem dX8_canBoard_97 : decode cX8_canBoard 97 = .ok (.iload 4, 2) := by decide +kernel
theorem dX8_canBoard_99 : decode cX8_canBoard 99 = .ok (.invokevirtual 101, 3) := by decide +kernel
theorem dX8_canBoard_102 : decode cX8_canBoard 102 = .ok (.iload_n 3, 1) := by decide +kernel
theorem dX8_canBoard_103 : decode cX8_canBoard 103 = .ok (.ior, 1) := by decide +kernel
theorem dX8_canBoard_104 : decode cX8_canBoard 104 = .ok (.invokevirtual 218, 3) := by decide +kernel
theorem dX8_canBoard_107 : decode cX8_canBoard 107 = .ok (.ifCond .eq 14, 3) := by decide +kernel
theorem dX8_canBoard_110 : decode cX8_canBoard 110 = .ok (.aload_n 0, 1) := by decide +kernel
theorem dX8_canBoard_111 : decode cX8_canBoard 111 = .ok (.invokevirtual 144, 3) := by decide +kernel
theorem dX8_canBoard_114 : decode cX8_canBoard 114 = .ok (.ifCond .eq 7, 3) := by decide +kernel
theorem dX8_canBoard_117 : decode cX8_canBoard 117 = .ok (.iconst 1, 1) := by decide +kernel
theorem dX8_canBoard_118 : decode cX8_canBoard 118 = .ok (.goto 4, 3) := by decide +kernel
theorem dX8_canBoard_121 : decode cX8_canBoard 121 = .ok (.iconst 0, 1) := by decide +kernel
theorem dX8_canBoard_122 : decode cX8_canBoard 122 = .ok (.istore_n 1, 1) := by decide +kernel
theorem dX8_canBoard_123 : decode cX8_canBoard 123 = .ok (.iinc 2 1, 3) := by decide +kernel
theorem dX8_canBoard_126 : decode cX8_canBoard 126 = .ok (.goto (-118), 3) := by decide +kernel
theorem dX8_canBoard_129 : decode cX8_canBoard 129 = .ok (.iload_n 1, 1) := by decide +kernel
theorem dX8_canBoard_130 : decode cX8_canBoard 130 = .ok (.ireturn, 1) := by decide +kernel
theorem dX8_nextTimes_0 : decode cX8_nextTimes 0 = .ok (.aload_n 0, 1) := by decide +kernel
theorem dX8_nextTimes_1 : decode cX8_nextTimes 1 = .ok (.getfield 232, 3) := by decide +kernel
theorem dX8_nextTimes_4 : decode cX8_nextTimes 4 = .ok (.iconst 1, 1) := by decide +kernel
theorem dX8_nextTimes_5 : decode cX8_nextTimes 5 = .ok (.isub, 1) := by decide +kernel
theorem dX8_nextTimes_6 : decode cX8_nextTimes 6 = .ok (.istore_n 1, 1) := by decide +kernel
theorem dX8_nextTimes_7 : decode cX8_nextTimes 7 = .ok (.iload_n 1, 1) := by decide +kernel
theorem dX8_nextTimes_8 : decode cX8_nextTimes 8 = .ok (.ifCond .lt 39, 3) := by decide +kernel
theorem dX8_nextTimes_11 : decode cX8_nextTimes 11 = .ok (.aload_n 0, 1) := by decide +kernel
theorem dX8_nextTimes_12 : decode cX8_nextTimes 12 = .ok (.getfield 41, 3) := by decide +kernel
theorem dX8_nextTimes_15 : decode cX8_nextTimes 15 = .ok (.iload_n 1, 1) := by decide +kernel
theorem dX8_nextTimes_16 : decode cX8_nextTimes 16 = .ok (.dup2, 1) := by decide +kernel
theorem dX8_nextTimes_17 : decode cX8_nextTimes 17 = .ok (.iaload, 1) := by decide +kernel
theorem dX8_nextTimes_18 : decode cX8_nextTimes 18 = .ok (.iconst 1, 1) := by decide +kernel
theorem dX8_nextTimes_19 : decode cX8_nextTimes 19 = .ok (.iadd, 1) := by decide +kernel
theorem dX8_nextTimes_20 : decode cX8_nextTimes 20 = .ok (.iastore, 1) := by decide +kernel
theorem dX8_nextTimes_21 : decode cX8_nextTimes 21 = .ok (.aload_n 0, 1) := by decide +kernel
theorem dX8_nextTimes_22 : decode cX8_nextTimes 22 = .ok (.getfield 41, 3) := by decide +kernel
theorem dX8_nextTimes_25 : decode cX8_nextTimes 25 = .ok (.iload_n 1, 1) := by decide +kernel
theorem dX8_nextTimes_26 : decode cX8_nextTimes 26 = .ok (.iaload, 1) := by decide +kernel
theorem dX8_nextTimes_27 : decode cX8_nextTimes 27 = .ok (.bipush 12, 2) := by decide +kernel
theorem dX8_nextTimes_29 : decode cX8_nextTimes 29 = .ok (.if_icmp .ge 5, 3) := by decide +kernel
theorem dX8_nextTimes_32 : decode cX8_nextTimes 32 = .ok (.iconst 1, 1) := by decide +kernel
theorem dX8_nextTimes_33 : decode cX8_nextTimes 33 = .ok (.ireturn, 1) := by decide +kernel
theorem dX8_nextTimes_34 : decode cX8_nextTimes 34 = .ok (.aload_n 0, 1) := by decide +kernel
theorem dX8_nextTimes_35 : decode cX8_nextTimes 35 = .ok (.getfield 41, 3) := by decide +kernel
theorem dX8_nextTimes_38 : decode cX8_nextTimes 38 = .ok (.iload_n 1, 1) := by decide +kernel
theorem dX8_nextTimes_39 : decode cX8_nextTimes 39 = .ok (.iconst 0, 1) := by decide +kernel
theorem dX8_nextTimes_40 : decode cX8_nextTimes 40 = .ok (.iastore, 1) := by decide +kernel
theorem dX8_nextTimes_41 : decode cX8_nextTimes 41 = .ok (.iinc 1 (-1), 3) := by decide +kernel
theorem dX8_nextTimes_44 : decode cX8_nextTimes 44 = .ok (.goto (-37), 3) := by decide +kernel
theorem dX8_nextTimes_47 : decode cX8_nextTimes 47 = .ok (.iconst 0, 1) := by decide +kernel
theorem dX8_nextTimes_48 : decode cX8_nextTimes 48 = .ok (.ireturn, 1) := by decide +kernel
theorem dX8_findSoonest_0 : decode cX8_findSoonest 0 = .ok (.aload_n 0, 1) := by decide +kernel
theorem dX8_findSoonest_1 : decode cX8_findSoonest 1 = .ok (.iconst 0, 1) := by decide +kernel
theorem dX8_findSoonest_2 : decode cX8_findSoonest 2 = .ok (.putfield 232, 3) := by decide +kernel
theorem dX8_findSoonest_5 : decode cX8_findSoonest 5 = .ok (.iconst 0, 1) := by decide +kernel
theorem dX8_findSoonest_6 : decode cX8_findSoonest 6 = .ok (.istore_n 3, 1) := by decide +kernel
theorem dX8_findSoonest_7 : decode cX8_findSoonest 7 = .ok (.iload_n 3, 1) := by decide +kernel
theorem dX8_findSoonest_8 : decode cX8_findSoonest 8 = .ok (.aload_n 0, 1) := by decide +kernel
theorem dX8_findSoonest_9 : decode cX8_findSoonest 9 = .ok (.getfield 69, 3) := by decide +kernel
theorem dX8_findSoonest_12 : decode cX8_findSoonest 12 = .ok (.if_icmp .ge 47, 3) := by decide +kernel
theorem dX8_findSoonest_15 : decode cX8_findSoonest 15 = .ok (.iload_n 1, 1) := by decide +kernel
theorem dX8_findSoonest_16 : decode cX8_findSoonest 16 = .ok (.iload_n 3, 1) := by decide +kernel
theorem dX8_findSoonest_17 : decode cX8_findSoonest 17 = .ok (.invokestatic 90, 3) := by decide +kernel
theorem dX8_findSoonest_20 : decode cX8_findSoonest 20 = .ok (.ifCond .eq 33, 3) := by decide +kernel
theorem dX8_findSoonest_23 : decode cX8_findSoonest 23 = .ok (.aload_n 0, 1) := by decide +kernel
theorem dX8_findSoonest_24 : decode cX8_findSoonest 24 = .ok (.getfield 38, 3) := by decide +kernel
theorem dX8_findSoonest_27 : decode cX8_findSoonest 27 = .ok (.aload_n 0, 1) := by decide +kernel
theorem dX8_findSoonest_28 : decode cX8_findSoonest 28 = .ok (.getfield 232, 3) := by decide +kernel
theorem dX8_findSoonest_31 : decode cX8_findSoonest 31 = .ok (.iload_n 3, 1) := by decide +kernel
theorem dX8_findSoonest_32 : decode cX8_findSoonest 32 = .ok (.iastore, 1) := by decide +kernel
theorem dX8_findSoonest_33 : decode cX8_findSoonest 33 = .ok (.aload_n 0, 1) := by decide +kernel
theorem dX8_findSoonest_34 : decode cX8_findSoonest 34 = .ok (.getfield 41, 3) := by decide +kernel
theorem dX8_findSoonest_37 : decode cX8_findSoonest 37 = .ok (.aload_n 0, 1) := by decide +kernel
theorem dX8_findSoonest_38 : decode cX8_findSoonest 38 = .ok (.getfield 232, 3) := by decide +kernel
theorem dX8_findSoonest_41 : decode cX8_findSoonest 41 = .ok (.iconst 0, 1) := by decide +kernel
theorem dX8_findSoonest_42 : decode cX8_findSoonest 42 = .ok (.iastore, 1) := by decide +kernel
theorem dX8_findSoonest_43 : decode cX8_findSoonest 43 = .ok (.aload_n 0, 1) := by decide +kernel
theorem dX8_findSoonest_44 : decode cX8_findSoonest 44 = .ok (.dup, 1) := by decide +kernel
theorem dX8_findSoonest_45 : decode cX8_findSoonest 45 = .ok (.getfield 232, 3) := by decide +kernel
theorem dX8_findSoonest_48 : decode cX8_findSoonest 48 = .ok (.iconst 1, 1) := by decide +kernel
theorem dX8_findSoonest_49 : decode cX8_findSoonest 49 = .ok (.iadd, 1) := by decide +kernel
theorem dX8_findSoonest_50 : decode cX8_findSoonest 50 = .ok (.putfield 232, 3) := by decide +kernel
theorem dX8_findSoonest_53 : decode cX8_findSoonest 53 = .ok (.iinc 3 1, 3) := by decide +kernel
theorem dX8_findSoonest_56 : decode cX8_findSoonest 56 = .ok (.goto (-49), 3) := by decide +kernel
theorem dX8_findSoonest_59 : decode cX8_findSoonest 59 = .ok (.bipush 12, 2) := by decide +kernel
theorem dX8_findSoonest_61 : decode cX8_findSoonest 61 = .ok (.istore_n 3, 1) := by decide +kernel
theorem dX8_findSoonest_62 : decode cX8_findSoonest 62 = .ok (.iconst 1, 1) := by decide +kernel
theorem dX8_findSoonest_63 : decode cX8_findSoonest 63 = .ok (.istore 4, 2) := by decide +kernel
theorem dX8_findSoonest_65 : decode cX8_findSoonest 65 = .ok (.iload 4, 2) := by decide +kernel
theorem dX8_findSoonest_67 : decode cX8_findSoonest 67 = .ok (.ifCond .eq 115, 3) := by decide +kernel
theorem dX8_findSoonest_70 : decode cX8_findSoonest 70 = .ok (.iconst 0, 1) := by decide +kernel
theorem dX8_findSoonest_71 : decode cX8_findSoonest 71 = .ok (.istore 5, 2) := by decide +kernel
theorem dX8_findSoonest_73 : decode cX8_findSoonest 73 = .ok (.iconst 0, 1) := by decide +kernel
theorem dX8_findSoonest_74 : decode cX8_findSoonest 74 = .ok (.istore 6, 2) := by decide +kernel
theorem dX8_findSoonest_76 : decode cX8_findSoonest 76 = .ok (.iload 6, 2) := by decide +kernel
theorem dX8_findSoonest_78 : decode cX8_findSoonest 78 = .ok (.aload_n 0, 1) := by decide +kernel
theorem dX8_findSoonest_79 : decode cX8_findSoonest 79 = .ok (.getfield 232, 3) := by decide +kernel
theorem dX8_findSoonest_82 : decode cX8_findSoonest 82 = .ok (.if_icmp .ge 35, 3) := by decide +kernel
theorem dX8_findSoonest_85 : decode cX8_findSoonest 85 = .ok (.aload_n 0, 1) := by decide +kernel
theorem dX8_findSoonest_86 : decode cX8_findSoonest 86 = .ok (.getfield 41, 3) := by decide +kernel
theorem dX8_findSoonest_89 : decode cX8_findSoonest 89 = .ok (.iload 6, 2) := by decide +kernel
theorem dX8_findSoonest_91 : decode cX8_findSoonest 91 = .ok (.iaload, 1) := by decide +kernel
theorem dX8_findSoonest_92 : decode cX8_findSoonest 92 = .ok (.iload 5, 2) := by decide +kernel
theorem dX8_findSoonest_94 : decode cX8_findSoonest 94 = .ok (.if_icmp .le 13, 3) := by decide +kernel
theorem dX8_findSoonest_97 : decode cX8_findSoonest 97 = .ok (.aload_n 0, 1) := by decide +kernel
theorem dX8_findSoonest_98 : decode cX8_findSoonest 98 = .ok (.getfield 41, 3) := by decide +kernel
theorem dX8_findSoonest_101 : decode cX8_findSoonest 101 = .ok (.iload 6, 2) := by decide +kernel
theorem dX8_findSoonest_103 : decode cX8_findSoonest 103 = .ok (.iaload, 1) := by decide +kernel
theorem dX8_findSoonest_104 : decode cX8_findSoonest 104 = .ok (.goto 5, 3) := by decide +kernel
theorem dX8_findSoonest_107 : decode cX8_findSoonest 107 = .ok (.iload 5, 2) := by decide +kernel
theorem dX8_findSoonest_109 : decode cX8_findSoonest 109 = .ok (.istore 5, 2) := by decide +kernel
theorem dX8_findSoonest_111 : decode cX8_findSoonest 111 = .ok (.iinc 6 1, 3) := by decide +kernel
theorem dX8_findSoonest_114 : decode cX8_findSoonest 114 = .ok (.goto (-38), 3) := by decide +kernel
theorem dX8_findSoonest_117 : decode cX8_findSoonest 117 = .ok (.iload 5, 2) := by decide +kernel
theorem dX8_findSoonest_119 : decode cX8_findSoonest 119 = .ok (.iload_n 3, 1) := by decide +kernel
theorem dX8_findSoonest_120 : decode cX8_findSoonest 120 = .ok (.if_icmp .ge 53, 3) := by decide +kernel
theorem dX8_findSoonest_123 : decode cX8_findSoonest 123 = .ok (.aload_n 0, 1) := by decide +kernel
theorem dX8_findSoonest_124 : decode cX8_findSoonest 124 = .ok (.iload_n 2, 1) := by decide +kernel
theorem dX8_findSoonest_125 : decode cX8_findSoonest 125 = .ok (.invokevirtual 235, 3) := by decide +kernel
theorem dX8_findSoonest_128 : decode cX8_findSoonest 128 = .ok (.ifCond .eq 45, 3) := by decide +kernel
theorem dX8_findSoonest_131 : decode cX8_findSoonest 131 = .ok (.aload_n 0, 1) := by decide +kernel
theorem dX8_findSoonest_132 : decode cX8_findSoonest 132 = .ok (.invokevirtual 238, 3) := by decide +kernel
theorem dX8_findSoonest_135 : decode cX8_findSoonest 135 = .ok (.ifCond .eq 38, 3) := by decide +kernel
theorem dX8_findSoonest_138 : decode cX8_findSoonest 138 = .ok (.iload 5, 2) := by decide +kernel
theorem dX8_findSoonest_140 : decode cX8_findSoonest 140 = .ok (.istore_n 3, 1) := by decide +kernel
theorem dX8_findSoonest_141 : decode cX8_findSoonest 141 = .ok (.iconst 0, 1) := by decide +kernel
theorem dX8_findSoonest_142 : decode cX8_findSoonest 142 = .ok (.istore 6, 2) := by decide +kernel
theorem dX8_findSoonest_144 : decode cX8_findSoonest 144 = .ok (.iload 6, 2) := by decide +kernel
theorem dX8_findSoonest_146 : decode cX8_findSoonest 146 = .ok (.aload_n 0, 1) := by decide +kernel
theorem dX8_findSoonest_147 : decode cX8_findSoonest 147 = .ok (.getfield 232, 3) := by decide +kernel
theorem dX8_findSoonest_150 : decode cX8_findSoonest 150 = .ok (.if_icmp .ge 23, 3) := by decide +kernel
theorem dX8_findSoonest_153 : decode cX8_findSoonest 153 = .ok (.aload_n 0, 1) := by decide +kernel
theorem dX8_findSoonest_154 : decode cX8_findSoonest 154 = .ok (.getfield 44, 3) := by decide +kernel
theorem dX8_findSoonest_157 : decode cX8_findSoonest 157 = .ok (.iload 6, 2) := by decide +kernel
theorem dX8_findSoonest_159 : decode cX8_findSoonest 159 = .ok (.aload_n 0, 1) := by decide +kernel
theorem dX8_findSoonest_160 : decode cX8_findSoonest 160 = .ok (.getfield 41, 3) := by decide +kernel
theorem dX8_findSoonest_163 : decode cX8_findSoonest 163 = .ok (.iload 6, 2) := by decide +kernel
theorem dX8_findSoonest_165 : decode cX8_findSoonest 165 = .ok (.iaload, 1) := by decide +kernel
theorem dX8_findSoonest_166 : decode cX8_findSoonest 166 = .ok (.iastore, 1) := by decide +kernel
theorem dX8_findSoonest_167 : decode cX8_findSoonest 167 = .ok (.iinc 6 1, 3) := by decide +kernel
theorem dX8_findSoonest_170 : decode cX8_findSoonest 170 = .ok (.goto (-26), 3) := by decide +kernel
theorem dX8_findSoonest_173 : decode cX8_findSoonest 173 = .ok (.aload_n 0, 1) := by decide +kernel
theorem dX8_findSoonest_174 : decode cX8_findSoonest 174 = .ok (.invokevirtual 241, 3) := by decide +kernel
theorem dX8_findSoonest_177 : decode cX8_findSoonest 177 = .ok (.istore 4, 2) := by decide +kernel
theorem dX8_findSoonest_179 : decode cX8_findSoonest 179 = .ok (.goto (-114), 3) := by decide +kernel
theorem dX8_findSoonest_182 : decode cX8_findSoonest 182 = .ok (.iload_n 3, 1) := by decide +kernel
theorem dX8_findSoonest_183 : decode cX8_findSoonest 183 = .ok (.bipush 12, 2) := by decide +kernel
theorem dX8_findSoonest_185 : decode cX8_findSoonest 185 = .ok (.if_icmp .ne 8, 3) := by decide +kernel
theorem dX8_findSoonest_188 : decode cX8_findSoonest 188 = .ok (.bipush (-4), 2) := by decide +kernel
theorem dX8_findSoonest_190 : decode cX8_findSoonest 190 = .ok (.goto 4, 3) := by decide +kernel
theorem dX8_findSoonest_193 : decode cX8_findSoonest 193 = .ok (.iload_n 3, 1) := by decide +kernel
theorem dX8_findSoonest_194 : decode cX8_findSoonest 194 = .ok (.ireturn, 1) := by decide +kernel
theorem dX8_soonest_0 : decode cX8_soonest 0 = .ok (.aload_n 0, 1) := by decide +kernel
theorem dX8_soonest_1 : decode cX8_soonest 1 = .ok (.iload_n 1, 1) := by decide +kernel
theorem dX8_soonest_2 : decode cX8_soonest 2 = .ok (.iload_n 2, 1) := by decide +kernel
theorem dX8_soonest_3 : decode cX8_soonest 3 = .ok (.invokevirtual 244, 3) := by decide +kernel
theorem dX8_soonest_6 : decode cX8_soonest 6 = .ok (.ifCond .eq 12, 3) := by decide +kernel
theorem dX8_soonest_9 : decode cX8_soonest 9 = .ok (.aload_n 0, 1) := by decide +kernel
theorem dX8_soonest_10 : decode cX8_soonest 10 = .ok (.iload_n 1, 1) := by decide +kernel
theorem dX8_soonest_11 : decode cX8_soonest 11 = .ok (.iload_n 2, 1) := by decide +kernel
theorem dX8_soonest_12 : decode cX8_soonest 12 = .ok (.invokevirtual 247, 3) := by decide +kernel
theorem dX8_soonest_15 : decode cX8_soonest 15 = .ok (.goto 4, 3) := by decide +kernel
theorem dX8_soonest_18 : decode cX8_soonest 18 = .ok (.iconst (-1), 1) := by decide +kernel
theorem dX8_soonest_19 : decode cX8_soonest 19 = .ok (.ireturn, 1) := by decide +kernel
theorem dX8_when_0 : decode cX8_when 0 = .ok (.aload_n 0, 1) := by decide +kernel
theorem dX8_when_1 : decode cX8_when 1 = .ok (.iload_n 1, 1) := by decide +kernel
theorem dX8_when_2 : decode cX8_when 2 = .ok (.iload_n 2, 1) := by decide +kernel
theorem dX8_when_3 : decode cX8_when 3 = .ok (.invokevirtual 244, 3) := by decide +kernel
theorem dX8_when_6 : decode cX8_when 6 = .ok (.ifCond .eq 19, 3) := by decide +kernel
theorem dX8_when_9 : decode cX8_when 9 = .ok (.aload_n 0, 1) := by decide +kernel
theorem dX8_when_10 : decode cX8_when 10 = .ok (.iload_n 3, 1) := by decide +kernel
theorem dX8_when_11 : decode cX8_when 11 = .ok (.invokevirtual 86, 3) := by decide +kernel
theorem dX8_when_14 : decode cX8_when 14 = .ok (.ifCond .eq 11, 3) := by decide +kernel
theorem dX8_when_17 : decode cX8_when 17 = .ok (.iload_n 1, 1) := by decide +kernel
theorem dX8_when_18 : decode cX8_when 18 = .ok (.iload_n 3, 1) := by decide +kernel
theorem dX8_when_19 : decode cX8_when 19 = .ok (.invokestatic 90, 3) := by decide +kernel
theorem dX8_when_22 : decode cX8_when 22 = .ok (.ifCond .ne 5, 3) := by decide +kernel
theorem dX8_when_25 : decode cX8_when 25 = .ok (.iconst (-1), 1) := by decide +kernel
theorem dX8_when_26 : decode cX8_when 26 = .ok (.ireturn, 1) := by decide +kernel
theorem dX8_when_27 : decode cX8_when 27 = .ok (.aload_n 0, 1) := by decide +kernel
theorem dX8_when_28 : decode cX8_when 28 = .ok (.iload_n 1, 1) := by decide +kernel
theorem dX8_when_29 : decode cX8_when 29 = .ok (.iload_n 2, 1) := by decide +kernel
theorem dX8_when_30 : decode cX8_when 30 = .ok (.invokevirtual 247, 3) := by decide +kernel
theorem dX8_when_33 : decode cX8_when 33 = .ok (.ifCond .ge 6, 3) := by decide +kernel
theorem dX8_when_36 : decode cX8_when 36 = .ok (.bipush (-4), 2) := by decide +kernel
theorem dX8_when_38 : decode cX8_when 38 = .ok (.ireturn, 1) := by decide +kernel
theorem dX8_when_39 : decode cX8_when 39 = .ok (.iconst 0, 1) := by decide +kernel
theorem dX8_when_40 : decode cX8_when 40 = .ok (.istore 4, 2) := by decide +kernel
theorem dX8_when_42 : decode cX8_when 42 = .ok (.aload_n 0, 1) := by decide +kernel
theorem dX8_when_43 : decode cX8_when 43 = .ok (.getfield 38, 3) := by decide +kernel
theorem dX8_when_46 : decode cX8_when 46 = .ok (.iload 4, 2) := by decide +kernel
theorem dX8_when_48 : decode cX8_when 48 = .ok (.iaload, 1) := by decide +kernel
theorem dX8_when_49 : decode cX8_when 49 = .ok (.iload_n 3, 1) := by decide +kernel
theorem dX8_when_50 : decode cX8_when 50 = .ok (.if_icmp .eq 9, 3) := by decide +kernel
theorem dX8_when_53 : decode cX8_when 53 = .ok (.iinc 4 1, 3) := by decide +kernel
theorem dX8_when_56 : decode cX8_when 56 = .ok (.goto (-14), 3) := by decide +kernel
theorem dX8_when_59 : decode cX8_when 59 = .ok (.aload_n 0, 1) := by decide +kernel
theorem dX8_when_60 : decode cX8_when 60 = .ok (.getfield 44, 3) := by decide +kernel
theorem dX8_when_63 : decode cX8_when 63 = .ok (.iload 4, 2) := by decide +kernel
theorem dX8_when_65 : decode cX8_when 65 = .ok (.iaload, 1) := by decide +kernel
theorem dX8_when_66 : decode cX8_when 66 = .ok (.ireturn, 1) := by decide +kernel
theorem dX8_isEvenWith_0 : decode cX8_isEvenWith 0 = .ok (.iconst 0, 1) := by decide +kernel
theorem dX8_isEvenWith_1 : decode cX8_isEvenWith 1 = .ok (.istore_n 2, 1) := by decide +kernel
theorem dX8_isEvenWith_2 : decode cX8_isEvenWith 2 = .ok (.iload_n 2, 1) := by decide +kernel
theorem dX8_isEvenWith_3 : decode cX8_isEvenWith 3 = .ok (.bipush 12, 2) := by decide +kernel
theorem dX8_isEvenWith_5 : decode cX8_isEvenWith 5 = .ok (.if_icmp .ge 21, 3) := by decide +kernel
theorem dX8_isEvenWith_8 : decode cX8_isEvenWith 8 = .ok (.aload_n 0, 1) := by decide +kernel
theorem dX8_isEvenWith_9 : decode cX8_isEvenWith 9 = .ok (.getfield 29, 3) := by decide +kernel
theorem dX8_isEvenWith_12 : decode cX8_isEvenWith 12 = .ok (.iload_n 2, 1) := by decide +kernel
theorem dX8_isEvenWith_13 : decode cX8_isEvenWith 13 = .ok (.aload_n 0, 1) := by decide +kernel
theorem dX8_isEvenWith_14 : decode cX8_isEvenWith 14 = .ok (.getfield 22, 3) := by decide +kernel
theorem dX8_isEvenWith_17 : decode cX8_isEvenWith 17 = .ok (.iload_n 2, 1) := by decide +kernel
theorem dX8_isEvenWith_18 : decode cX8_isEvenWith 18 = .ok (.iaload, 1) := by decide +kernel
theorem dX8_isEvenWith_19 : decode cX8_isEvenWith 19 = .ok (.iastore, 1) := by decide +kernel
theorem dX8_isEvenWith_20 : decode cX8_isEvenWith 20 = .ok (.iinc 2 1, 3) := by decide +kernel
theorem dX8_isEvenWith_23 : decode cX8_isEvenWith 23 = .ok (.goto (-21), 3) := by decide +kernel
theorem dX8_isEvenWith_26 : decode cX8_isEvenWith 26 = .ok (.iconst 0, 1) := by decide +kernel
theorem dX8_isEvenWith_27 : decode cX8_isEvenWith 27 = .ok (.istore_n 2, 1) := by decide +kernel
theorem dX8_isEvenWith_28 : decode cX8_isEvenWith 28 = .ok (.iload_n 2, 1) := by decide +kernel
theorem dX8_isEvenWith_29 : decode cX8_isEvenWith 29 = .ok (.aload_n 0, 1) := by decide +kernel
theorem dX8_isEvenWith_30 : decode cX8_isEvenWith 30 = .ok (.getfield 69, 3) := by decide +kernel
theorem dX8_isEvenWith_33 : decode cX8_isEvenWith 33 = .ok (.if_icmp .ge 37, 3) := by decide +kernel
theorem dX8_isEvenWith_36 : decode cX8_isEvenWith 36 = .ok (.iload_n 1, 1) := by decide +kernel
theorem dX8_isEvenWith_37 : decode cX8_isEvenWith 37 = .ok (.iload_n 2, 1) := by decide +kernel
theorem dX8_isEvenWith_38 : decode cX8_isEvenWith 38 = .ok (.invokestatic 90, 3) := by decide +kernel
theorem dX8_isEvenWith_41 : decode cX8_isEvenWith 41 = .ok (.ifCond .eq 23, 3) := by decide +kernel
theorem dX8_isEvenWith_44 : decode cX8_isEvenWith 44 = .ok (.aload_n 0, 1) := by decide +kernel
theorem dX8_isEvenWith_45 : decode cX8_isEvenWith 45 = .ok (.getfield 29, 3) := by decide +kernel
theorem dX8_isEvenWith_48 : decode cX8_isEvenWith 48 = .ok (.aload_n 0, 1) := by decide +kernel
theorem dX8_isEvenWith_49 : decode cX8_isEvenWith 49 = .ok (.getfield 16, 3) := by decide +kernel
theorem dX8_isEvenWith_52 : decode cX8_isEvenWith 52 = .ok (.iload_n 2, 1) := by decide +kernel
theorem dX8_isEvenWith_53 : decode cX8_isEvenWith 53 = .ok (.iaload, 1) := by decide +kernel
theorem dX8_isEvenWith_54 : decode cX8_isEvenWith 54 = .ok (.dup2, 1) := by decide +kernel
theorem dX8_isEvenWith_55 : decode cX8_isEvenWith 55 = .ok (.iaload, 1) := by decide +kernel
theorem dX8_isEvenWith_56 : decode cX8_isEvenWith 56 = .ok (.aload_n 0, 1) := by decide +kernel
theorem dX8_isEvenWith_57 : decode cX8_isEvenWith 57 = .ok (.getfield 13, 3) := by decide +kernel
theorem dX8_isEvenWith_60 : decode cX8_isEvenWith 60 = .ok (.iload_n 2, 1) := by decide +kernel
theorem dX8_isEvenWith_61 : decode cX8_isEvenWith 61 = .ok (.iaload, 1) := by decide +kernel
theorem dX8_isEvenWith_62 : decode cX8_isEvenWith 62 = .ok (.iadd, 1) := by decide +kernel
theorem dX8_isEvenWith_63 : decode cX8_isEvenWith 63 = .ok (.iastore, 1) := by decide +kernel
theorem dX8_isEvenWith_64 : decode cX8_isEvenWith 64 = .ok (.iinc 2 1, 3) := by decide +kernel
theorem dX8_isEvenWith_67 : decode cX8_isEvenWith 67 = .ok (.goto (-39), 3) := by decide +kernel
theorem dX8_isEvenWith_70 : decode cX8_isEvenWith 70 = .ok (.aload_n 0, 1) := by decide +kernel
theorem dX8_isEvenWith_71 : decode cX8_isEvenWith 71 = .ok (.invokevirtual 144, 3) := by decide +kernel
theorem dX8_isEvenWith_74 : decode cX8_isEvenWith 74 = .ok (.ireturn, 1) := by decide +kernel
theorem dX8_empty_0 : decode cX8_empty 0 = .ok (.aload_n 0, 1) := by decide +kernel
theorem dX8_empty_1 : decode cX8_empty 1 = .ok (.iconst 4, 1) := by decide +kernel
theorem dX8_empty_2 : decode cX8_empty 2 = .ok (.invokevirtual 250, 3) := by decide +kernel
theorem dX8_empty_5 : decode cX8_empty 5 = .ok (.istore_n 1, 1) := by decide +kernel
theorem dX8_empty_6 : decode cX8_empty 6 = .ok (.iconst 0, 1) := by decide +kernel
theorem dX8_empty_7 : decode cX8_empty 7 = .ok (.istore_n 2, 1) := by decide +kernel
theorem dX8_empty_8 : decode cX8_empty 8 = .ok (.iload_n 2, 1) := by decide +kernel
theorem dX8_empty_9 : decode cX8_empty 9 = .ok (.sipush 1024, 3) := by decide +kernel
theorem dX8_empty_12 : decode cX8_empty 12 = .ok (.if_icmp .ge 25, 3) := by decide +kernel
theorem dX8_empty_15 : decode cX8_empty 15 = .ok (.aload_n 0, 1) := by decide +kernel
theorem dX8_empty_16 : decode cX8_empty 16 = .ok (.getfield 47, 3) := by decide +kernel
theorem dX8_empty_19 : decode cX8_empty 19 = .ok (.iload_n 2, 1) := by decide +kernel
theorem dX8_empty_20 : decode cX8_empty 20 = .ok (.iload_n 2, 1) := by decide +kernel
theorem dX8_empty_21 : decode cX8_empty 21 = .ok (.iload_n 1, 1) := by decide +kernel
theorem dX8_empty_22 : decode cX8_empty 22 = .ok (.if_icmp .ne 7, 3) := by decide +kernel
theorem dX8_empty_25 : decode cX8_empty 25 = .ok (.iconst 1, 1) := by decide +kernel
theorem dX8_empty_26 : decode cX8_empty 26 = .ok (.goto 4, 3) := by decide +kernel
theorem dX8_empty_29 : decode cX8_empty 29 = .ok (.iconst 0, 1) := by decide +kernel
theorem dX8_empty_30 : decode cX8_empty 30 = .ok (.bastore, 1) := by decide +kernel
theorem dX8_empty_31 : decode cX8_empty 31 = .ok (.iinc 2 1, 3) := by decide +kernel
theorem dX8_empty_34 : decode cX8_empty 34 = .ok (.goto (-26), 3) := by decide +kernel
theorem dX8_empty_37 : decode cX8_empty 37 = .ok (.iconst 0, 1) := by decide +kernel
theorem dX8_empty_38 : decode cX8_empty 38 = .ok (.istore_n 2, 1) := by decide +kernel
theorem dX8_empty_39 : decode cX8_empty 39 = .ok (.iload_n 2, 1) := by decide +kernel
theorem dX8_empty_40 : decode cX8_empty 40 = .ok (.bipush 24, 2) := by decide +kernel
theorem dX8_empty_42 : decode cX8_empty 42 = .ok (.if_icmp .ge 52, 3) := by decide +kernel
theorem dX8_empty_45 : decode cX8_empty 45 = .ok (.iload_n 2, 1) := by decide +kernel
theorem dX8_empty_46 : decode cX8_empty 46 = .ok (.ifCond .ne 14, 3) := by decide +kernel
theorem dX8_empty_49 : decode cX8_empty 49 = .ok (.aload_n 0, 1) := by decide +kernel
theorem dX8_empty_50 : decode cX8_empty 50 = .ok (.getfield 47, 3) := by decide +kernel
theorem dX8_empty_53 : decode cX8_empty 53 = .ok (.iconst 0, 1) := by decide +kernel
theorem dX8_empty_54 : decode cX8_empty 54 = .ok (.baload, 1) := by decide +kernel
theorem dX8_empty_55 : decode cX8_empty 55 = .ok (.ifCond .eq 5, 3) := by decide +kernel
theorem dX8_empty_58 : decode cX8_empty 58 = .ok (.iconst 0, 1) := by decide +kernel
theorem dX8_empty_59 : decode cX8_empty 59 = .ok (.ireturn, 1) := by decide +kernel
theorem dX8_empty_60 : decode cX8_empty 60 = .ok (.aload_n 0, 1) := by decide +kernel
theorem dX8_empty_61 : decode cX8_empty 61 = .ok (.aload_n 0, 1) := by decide +kernel
theorem dX8_empty_62 : decode cX8_empty 62 = .ok (.aload_n 0, 1) := by decide +kernel
theorem dX8_empty_63 : decode cX8_empty 63 = .ok (.getfield 159, 3) := by decide +kernel
theorem dX8_empty_66 : decode cX8_empty 66 = .ok (.iload_n 2, 1) := by decide +kernel
theorem dX8_empty_67 : decode cX8_empty 67 = .ok (.iadd, 1) := by decide +kernel
theorem dX8_empty_68 : decode cX8_empty 68 = .ok (.bipush 12, 2) := by decide +kernel
theorem dX8_empty_70 : decode cX8_empty 70 = .ok (.irem, 1) := by decide +kernel
theorem dX8_empty_71 : decode cX8_empty 71 = .ok (.invokevirtual 101, 3) := by decide +kernel
theorem dX8_empty_74 : decode cX8_empty 74 = .ok (.invokevirtual 253, 3) := by decide +kernel
theorem dX8_empty_77 : decode cX8_empty 77 = .ok (.aload_n 0, 1) := by decide +kernel
theorem dX8_empty_78 : decode cX8_empty 78 = .ok (.getfield 47, 3) := by decide +kernel
theorem dX8_empty_81 : decode cX8_empty 81 = .ok (.iconst 0, 1) := by decide +kernel
theorem dX8_empty_82 : decode cX8_empty 82 = .ok (.baload, 1) := by decide +kernel
theorem dX8_empty_83 : decode cX8_empty 83 = .ok (.ifCond .eq 5, 3) := by decide +kernel
theorem dX8_empty_86 : decode cX8_empty 86 = .ok (.iload_n 2, 1) := by decide +kernel
theorem dX8_empty_87 : decode cX8_empty 87 = .ok (.ireturn, 1) := by decide +kernel
theorem dX8_empty_88 : decode cX8_empty 88 = .ok (.iinc 2 1, 3) := by decide +kernel
theorem dX8_empty_91 : decode cX8_empty 91 = .ok (.goto (-52), 3) := by decide +kernel
theorem dX8_empty_94 : decode cX8_empty 94 = .ok (.bipush (-4), 2) := by decide +kernel
theorem dX8_empty_96 : decode cX8_empty 96 = .ok (.ireturn, 1) := by decide +kernel
theorem dX8_getOut_0 : decode cX8_getOut 0 = .ok (.iconst 0, 1) := by decide +kernel
theorem dX8_getOut_1 : decode cX8_getOut 1 = .ok (.istore_n 2, 1) := by decide +kernel
theorem dX8_getOut_2 : decode cX8_getOut 2 = .ok (.iload_n 2, 1) := by decide +kernel
theorem dX8_getOut_3 : decode cX8_getOut 3 = .ok (.iconst 1, 1) := by decide +kernel
theorem dX8_getOut_4 : decode cX8_getOut 4 = .ok (.aload_n 0, 1) := by decide +kernel
theorem dX8_getOut_5 : decode cX8_getOut 5 = .ok (.getfield 69, 3) := by decide +kernel
theorem dX8_getOut_8 : decode cX8_getOut 8 = .ok (.ishl, 1) := by decide +kernel
theorem dX8_getOut_9 : decode cX8_getOut 9 = .ok (.if_icmp .ge 21, 3) := by decide +kernel
theorem dX8_getOut_12 : decode cX8_getOut 12 = .ok (.aload_n 0, 1) := by decide +kernel
theorem dX8_getOut_13 : decode cX8_getOut 13 = .ok (.getfield 51, 3) := by decide +kernel
theorem dX8_getOut_16 : decode cX8_getOut 16 = .ok (.iload_n 2, 1) := by decide +kernel
theorem dX8_getOut_17 : decode cX8_getOut 17 = .ok (.aload_n 0, 1) := by decide +kernel
theorem dX8_getOut_18 : decode cX8_getOut 18 = .ok (.getfield 47, 3) := by decide +kernel
theorem dX8_getOut_21 : decode cX8_getOut 21 = .ok (.iload_n 2, 1) := by decide +kernel
theorem dX8_getOut_22 : decode cX8_getOut 22 = .ok (.baload, 1) := by decide +kernel
theorem dX8_getOut_23 : decode cX8_getOut 23 = .ok (.bastore, 1) := by decide +kernel
theorem dX8_getOut_24 : decode cX8_getOut 24 = .ok (.iinc 2 1, 3) := by decide +kernel
theorem dX8_getOut_27 : decode cX8_getOut 27 = .ok (.goto (-25), 3) := by decide +kernel
theorem dX8_getOut_30 : decode cX8_getOut 30 = .ok (.iconst 0, 1) := by decide +kernel
theorem dX8_getOut_31 : decode cX8_getOut 31 = .ok (.istore_n 2, 1) := by decide +kernel
theorem dX8_getOut_32 : decode cX8_getOut 32 = .ok (.iload_n 2, 1) := by decide +kernel
theorem dX8_getOut_33 : decode cX8_getOut 33 = .ok (.iconst 1, 1) := by decide +kernel
theorem dX8_getOut_34 : decode cX8_getOut 34 = .ok (.aload_n 0, 1) := by decide +kernel
theorem dX8_getOut_35 : decode cX8_getOut 35 = .ok (.getfield 69, 3) := by decide +kernel
theorem dX8_getOut_38 : decode cX8_getOut 38 = .ok (.ishl, 1) := by decide +kernel
theorem dX8_getOut_39 : decode cX8_getOut 39 = .ok (.if_icmp .ge 95, 3) := by decide +kernel
theorem dX8_getOut_42 : decode cX8_getOut 42 = .ok (.aload_n 0, 1) := by decide +kernel
theorem dX8_getOut_43 : decode cX8_getOut 43 = .ok (.getfield 47, 3) := by decide +kernel
theorem dX8_getOut_46 : decode cX8_getOut 46 = .ok (.iload_n 2, 1) := by decide +kernel
theorem dX8_getOut_47 : decode cX8_getOut 47 = .ok (.baload, 1) := by decide +kernel
theorem dX8_getOut_48 : decode cX8_getOut 48 = .ok (.ifCond .eq 9, 3) := by decide +kernel
theorem dX8_getOut_51 : decode cX8_getOut 51 = .ok (.iload_n 2, 1) := by decide +kernel
theorem dX8_getOut_52 : decode cX8_getOut 52 = .ok (.iload_n 1, 1) := by decide +kernel
theorem dX8_getOut_53 : decode cX8_getOut 53 = .ok (.iand, 1) := by decide +kernel
theorem dX8_getOut_54 : decode cX8_getOut 54 = .ok (.goto 4, 3) := by decide +kernel
theorem dX8_getOut_57 : decode cX8_getOut 57 = .ok (.iconst 0, 1) := by decide +kernel
theorem dX8_getOut_58 : decode cX8_getOut 58 = .ok (.istore_n 3, 1) := by decide +kernel
theorem dX8_getOut_59 : decode cX8_getOut 59 = .ok (.iload_n 3, 1) := by decide +kernel
theorem dX8_getOut_60 : decode cX8_getOut 60 = .ok (.istore 4, 2) := by decide +kernel
theorem dX8_getOut_62 : decode cX8_getOut 62 = .ok (.iload 4, 2) := by decide +kernel
theorem dX8_getOut_64 : decode cX8_getOut 64 = .ok (.ifCond .eq 64, 3) := by decide +kernel
theorem dX8_getOut_67 : decode cX8_getOut 67 = .ok (.iload_n 2, 1) := by decide +kernel
theorem dX8_getOut_68 : decode cX8_getOut 68 = .ok (.iload 4, 2) := by decide +kernel
theorem dX8_getOut_70 : decode cX8_getOut 70 = .ok (.iconst (-1), 1) := by decide +kernel
theorem dX8_getOut_71 : decode cX8_getOut 71 = .ok (.ixor, 1) := by decide +kernel
theorem dX8_getOut_72 : decode cX8_getOut 72 = .ok (.iand, 1) := by decide +kernel
theorem dX8_getOut_73 : decode cX8_getOut 73 = .ok (.istore 5, 2) := by decide +kernel
theorem dX8_getOut_75 : decode cX8_getOut 75 = .ok (.aload_n 0, 1) := by decide +kernel
theorem dX8_getOut_76 : decode cX8_getOut 76 = .ok (.getfield 51, 3) := by decide +kernel
theorem dX8_getOut_79 : decode cX8_getOut 79 = .ok (.iload 5, 2) := by decide +kernel
theorem dX8_getOut_81 : decode cX8_getOut 81 = .ok (.aload_n 0, 1) := by decide +kernel
theorem dX8_getOut_82 : decode cX8_getOut 82 = .ok (.getfield 51, 3) := by decide +kernel
theorem dX8_getOut_85 : decode cX8_getOut 85 = .ok (.iload 5, 2) := by decide +kernel
theorem dX8_getOut_87 : decode cX8_getOut 87 = .ok (.baload, 1) := by decide +kernel
theorem dX8_getOut_88 : decode cX8_getOut 88 = .ok (.ifCond .ne 23, 3) := by decide +kernel
theorem dX8_getOut_91 : decode cX8_getOut 91 = .ok (.aload_n 0, 1) := by decide +kernel
theorem dX8_getOut_92 : decode cX8_getOut 92 = .ok (.iload 5, 2) := by decide +kernel
theorem dX8_getOut_94 : decode cX8_getOut 94 = .ok (.iload_n 1, 1) := by decide +kernel
theorem dX8_getOut_95 : decode cX8_getOut 95 = .ok (.iand, 1) := by decide +kernel
theorem dX8_getOut_96 : decode cX8_getOut 96 = .ok (.invokevirtual 218, 3) := by decide +kernel
theorem dX8_getOut_99 : decode cX8_getOut 99 = .ok (.ifCond .eq 16, 3) := by decide +kernel
theorem dX8_getOut_102 : decode cX8_getOut 102 = .ok (.aload_n 0, 1) := by decide +kernel
theorem dX8_getOut_103 : decode cX8_getOut 103 = .ok (.iload 5, 2) := by decide +kernel
theorem dX8_getOut_105 : decode cX8_getOut 105 = .ok (.invokevirtual 257, 3) := by decide +kernel
theorem dX8_getOut_108 : decode cX8_getOut 108 = .ok (.ifCond .eq 7, 3) := by decide +kernel
theorem dX8_getOut_111 : decode cX8_getOut 111 = .ok (.iconst 1, 1) := by decide +kernel
theorem dX8_getOut_112 : decode cX8_getOut 112 = .ok (.goto 4, 3) := by decide +kernel
theorem dX8_getOut_115 : decode cX8_getOut 115 = .ok (.iconst 0, 1) := by decide +kernel
theorem dX8_getOut_116 : decode cX8_getOut 116 = .ok (.bastore, 1) := by decide +kernel
theorem dX8_getOut_117 : decode cX8_getOut 117 = .ok (.iload 4, 2) := by decide +kernel
theorem dX8_getOut_119 : decode cX8_getOut 119 = .ok (.iconst 1, 1) := by decide +kernel
theorem dX8_getOut_120 : decode cX8_getOut 120 = .ok (.isub, 1) := by decide +kernel
theorem dX8_getOut_121 : decode cX8_getOut 121 = .ok (.iload_n 3, 1) := by decide +kernel
theorem dX8_getOut_122 : decode cX8_getOut 122 = .ok (.iand, 1) := by decide +kernel
theorem dX8_getOut_123 : decode cX8_getOut 123 = .ok (.istore 4, 2) := by decide +kernel
theorem dX8_getOut_125 : decode cX8_getOut 125 = .ok (.goto (-63), 3) := by decide +kernel
theorem dX8_getOut_128 : decode cX8_getOut 128 = .ok (.iinc 2 1, 3) := by decide +kernel
theorem dX8_getOut_131 : decode cX8_getOut 131 = .ok (.goto (-99), 3) := by decide +kernel
theorem dX8_getOut_134 : decode cX8_getOut 134 = .ok (.iconst 0, 1) := by decide +kernel
theorem dX8_getOut_135 : decode cX8_getOut 135 = .ok (.istore_n 2, 1) := by decide +kernel
theorem dX8_getOut_136 : decode cX8_getOut 136 = .ok (.iload_n 2, 1) := by decide +kernel
theorem dX8_getOut_137 : decode cX8_getOut 137 = .ok (.iconst 1, 1) := by decide +kernel
theorem dX8_getOut_138 : decode cX8_getOut 138 = .ok (.aload_n 0, 1) := by decide +kernel
theorem dX8_getOut_139 : decode cX8_getOut 139 = .ok (.getfield 69, 3) := by decide +kernel
theorem dX8_getOut_142 : decode cX8_getOut 142 = .ok (.ishl, 1) := by decide +kernel
theorem dX8_getOut_143 : decode cX8_getOut 143 = .ok (.if_icmp .ge 21, 3) := by decide +kernel
theorem dX8_getOut_146 : decode cX8_getOut 146 = .ok (.aload_n 0, 1) := by decide +kernel
theorem dX8_getOut_147 : decode cX8_getOut 147 = .ok (.getfield 47, 3) := by decide +kernel
theorem dX8_getOut_150 : decode cX8_getOut 150 = .ok (.iload_n 2, 1) := by decide +kernel
theorem dX8_getOut_151 : decode cX8_getOut 151 = .ok (.aload_n 0, 1) := by decide +kernel
theorem dX8_getOut_152 : decode cX8_getOut 152 = .ok (.getfield 51, 3) := by decide +kernel
theorem dX8_getOut_155 : decode cX8_getOut 155 = .ok (.iload_n 2, 1) := by decide +kernel
theorem dX8_getOut_156 : decode cX8_getOut 156 = .ok (.baload, 1) := by decide +kernel
theorem dX8_getOut_157 : decode cX8_getOut 157 = .ok (.bastore, 1) := by decide +kernel
theorem dX8_getOut_158 : decode cX8_getOut 158 = .ok (.iinc 2 1, 3) := by decide +kernel
theorem dX8_getOut_161 : decode cX8_getOut 161 = .ok (.goto (-25), 3) := by decide +kernel
theorem dX8_getOut_164 : decode cX8_getOut 164 = .ok (.return_, 1) := by decide +kernel
theorem dX8_least_0 : decode cX8_least 0 = .ok (.aload_n 0, 1) := by decide +kernel
theorem dX8_least_1 : decode cX8_least 1 = .ok (.iload_n 1, 1) := by decide +kernel
theorem dX8_least_2 : decode cX8_least 2 = .ok (.invokevirtual 86, 3) := by decide +kernel
theorem dX8_least_5 : decode cX8_least 5 = .ok (.ifCond .eq 24, 3) := by decide +kernel
theorem dX8_least_8 : decode cX8_least 8 = .ok (.aload_n 0, 1) := by decide +kernel
theorem dX8_least_9 : decode cX8_least 9 = .ok (.getfield 16, 3) := by decide +kernel
theorem dX8_least_12 : decode cX8_least 12 = .ok (.iload_n 1, 1) := by decide +kernel
theorem dX8_least_13 : decode cX8_least 13 = .ok (.iaload, 1) := by decide +kernel
theorem dX8_least_14 : decode cX8_least 14 = .ok (.bipush 12, 2) := by decide +kernel
theorem dX8_least_16 : decode cX8_least 16 = .ok (.if_icmp .ne 13, 3) := by decide +kernel
theorem dX8_least_19 : decode cX8_least 19 = .ok (.iload_n 2, 1) := by decide +kernel
theorem dX8_least_20 : decode cX8_least 20 = .ok (.i2l, 1) := by decide +kernel
theorem dX8_least_21 : decode cX8_least 21 = .ok (.lconst 0, 1) := by decide +kernel
theorem dX8_least_22 : decode cX8_least 22 = .ok (.lconst 1, 1) := by decide +kernel
theorem dX8_least_23 : decode cX8_least 23 = .ok (.invokestatic 72, 3) := by decide +kernel
theorem dX8_least_26 : decode cX8_least 26 = .ok (.ifCond .ne 5, 3) := by decide +kernel
theorem dX8_least_29 : decode cX8_least 29 = .ok (.iconst (-1), 1) := by decide +kernel
theorem dX8_least_30 : decode cX8_least 30 = .ok (.ireturn, 1) := by decide +kernel
theorem dX8_least_31 : decode cX8_least 31 = .ok (.aload_n 0, 1) := by decide +kernel
theorem dX8_least_32 : decode cX8_least 32 = .ok (.getfield 16, 3) := by decide +kernel
theorem dX8_least_35 : decode cX8_least 35 = .ok (.iload_n 1, 1) := by decide +kernel
theorem dX8_least_36 : decode cX8_least 36 = .ok (.aload_n 0, 1) := by decide +kernel
theorem dX8_least_37 : decode cX8_least 37 = .ok (.getfield 159, 3) := by decide +kernel
theorem dX8_least_40 : decode cX8_least 40 = .ok (.iastore, 1) := by decide +kernel
theorem dX8_least_41 : decode cX8_least 41 = .ok (.aload_n 0, 1) := by decide +kernel
theorem dX8_least_42 : decode cX8_least 42 = .ok (.aload_n 0, 1) := by decide +kernel
theorem dX8_least_43 : decode cX8_least 43 = .ok (.aload_n 0, 1) := by decide +kernel
theorem dX8_least_44 : decode cX8_least 44 = .ok (.getfield 159, 3) := by decide +kernel
theorem dX8_least_47 : decode cX8_least 47 = .ok (.invokevirtual 101, 3) := by decide +kernel
theorem dX8_least_50 : decode cX8_least 50 = .ok (.invokevirtual 218, 3) := by decide +kernel
theorem dX8_least_53 : decode cX8_least 53 = .ok (.istore_n 3, 1) := by decide +kernel
theorem dX8_least_54 : decode cX8_least 54 = .ok (.bipush (-4), 2) := by decide +kernel
theorem dX8_least_56 : decode cX8_least 56 = .ok (.istore 4, 2) := by decide +kernel
theorem dX8_least_58 : decode cX8_least 58 = .ok (.bipush 100, 2) := by decide +kernel
theorem dX8_least_60 : decode cX8_least 60 = .ok (.istore 5, 2) := by decide +kernel
theorem dX8_least_62 : decode cX8_least 62 = .ok (.iconst 0, 1) := by decide +kernel
theorem dX8_least_63 : decode cX8_least 63 = .ok (.istore 6, 2) := by decide +kernel
theorem dX8_least_65 : decode cX8_least 65 = .ok (.iload 6, 2) := by decide +kernel
theorem dX8_least_67 : decode cX8_least 67 = .ok (.bipush 12, 2) := by decide +kernel
theorem dX8_least_69 : decode cX8_least 69 = .ok (.if_icmp .ge 75, 3) := by decide +kernel
theorem dX8_least_72 : decode cX8_least 72 = .ok (.iload_n 3, 1) := by decide +kernel
theorem dX8_least_73 : decode cX8_least 73 = .ok (.ifCond .eq 71, 3) := by decide +kernel
theorem dX8_least_76 : decode cX8_least 76 = .ok (.iconst 0, 1) := by decide +kernel
theorem dX8_least_77 : decode cX8_least 77 = .ok (.istore 7, 2) := by decide +kernel
theorem dX8_least_79 : decode cX8_least 79 = .ok (.iload 7, 2) := by decide +kernel
theorem dX8_least_81 : decode cX8_least 81 = .ok (.iload 5, 2) := by decide +kernel
theorem dX8_least_83 : decode cX8_least 83 = .ok (.if_icmp .ge 55, 3) := by decide +kernel
theorem dX8_least_86 : decode cX8_least 86 = .ok (.aload_n 0, 1) := by decide +kernel
theorem dX8_least_87 : decode cX8_least 87 = .ok (.getfield 22, 3) := by decide +kernel
theorem dX8_least_90 : decode cX8_least 90 = .ok (.iload 6, 2) := by decide +kernel
theorem dX8_least_92 : decode cX8_least 92 = .ok (.iaload, 1) := by decide +kernel
theorem dX8_least_93 : decode cX8_least 93 = .ok (.iload 7, 2) := by decide +kernel
theorem dX8_least_95 : decode cX8_least 95 = .ok (.iadd, 1) := by decide +kernel
theorem dX8_least_96 : decode cX8_least 96 = .ok (.bipush 100, 2) := by decide +kernel
theorem dX8_least_98 : decode cX8_least 98 = .ok (.if_icmp .ge 40, 3) := by decide +kernel
theorem dX8_least_101 : decode cX8_least 101 = .ok (.aload_n 0, 1) := by decide +kernel
theorem dX8_least_102 : decode cX8_least 102 = .ok (.invokevirtual 141, 3) := by decide +kernel
theorem dX8_least_105 : decode cX8_least 105 = .ok (.aload_n 0, 1) := by decide +kernel
theorem dX8_least_106 : decode cX8_least 106 = .ok (.getfield 29, 3) := by decide +kernel
theorem dX8_least_109 : decode cX8_least 109 = .ok (.iload 6, 2) := by decide +kernel
theorem dX8_least_111 : decode cX8_least 111 = .ok (.dup2, 1) := by decide +kernel
theorem dX8_least_112 : decode cX8_least 112 = .ok (.iaload, 1) := by decide +kernel
theorem dX8_least_113 : decode cX8_least 113 = .ok (.iload 7, 2) := by decide +kernel
theorem dX8_least_115 : decode cX8_least 115 = .ok (.iadd, 1) := by decide +kernel
theorem dX8_least_116 : decode cX8_least 116 = .ok (.iastore, 1) := by decide +kernel
theorem dX8_least_117 : decode cX8_least 117 = .ok (.aload_n 0, 1) := by decide +kernel
theorem dX8_least_118 : decode cX8_least 118 = .ok (.invokevirtual 144, 3) := by decide +kernel
theorem dX8_least_121 : decode cX8_least 121 = .ok (.ifCond .eq 11, 3) := by decide +kernel
theorem dX8_least_124 : decode cX8_least 124 = .ok (.iload 6, 2) := by decide +kernel
theorem dX8_least_126 : decode cX8_least 126 = .ok (.istore 4, 2) := by decide +kernel
theorem dX8_least_128 : decode cX8_least 128 = .ok (.iload 7, 2) := by decide +kernel
theorem dX8_least_130 : decode cX8_least 130 = .ok (.istore 5, 2) := by decide +kernel
theorem dX8_least_132 : decode cX8_least 132 = .ok (.iinc 7 1, 3) := by decide +kernel
theorem dX8_least_135 : decode cX8_least 135 = .ok (.goto (-56), 3) := by decide +kernel
theorem dX8_least_138 : decode cX8_least 138 = .ok (.iinc 6 1, 3) := by decide +kernel
theorem dX8_least_141 : decode cX8_least 141 = .ok (.goto (-76), 3) := by decide +kernel
theorem dX8_least_144 : decode cX8_least 144 = .ok (.aload_n 0, 1) := by decide +kernel
theorem dX8_least_145 : decode cX8_least 145 = .ok (.getfield 16, 3) := by decide +kernel
theorem dX8_least_148 : decode cX8_least 148 = .ok (.iload_n 1, 1) := by decide +kernel
theorem dX8_least_149 : decode cX8_least 149 = .ok (.bipush 12, 2) := by decide +kernel
theorem dX8_least_151 : decode cX8_least 151 = .ok (.iastore, 1) := by decide +kernel
theorem dX8_least_152 : decode cX8_least 152 = .ok (.iload 4, 2) := by decide +kernel
theorem dX8_least_154 : decode cX8_least 154 = .ok (.ifCond .ge 8, 3) := by decide +kernel
theorem dX8_least_157 : decode cX8_least 157 = .ok (.bipush (-4), 2) := by decide +kernel
theorem dX8_least_159 : decode cX8_least 159 = .ok (.goto 14, 3) := by decide +kernel
theorem dX8_least_162 : decode cX8_least 162 = .ok (.iload_n 2, 1) := by decide +kernel
theorem dX8_least_163 : decode cX8_least 163 = .ok (.ifCond .ne 8, 3) := by decide +kernel
theorem dX8_least_166 : decode cX8_least 166 = .ok (.iload 5, 2) := by decide +kernel
theorem dX8_least_168 : decode cX8_least 168 = .ok (.goto 5, 3) := by decide +kernel
theorem dX8_least_171 : decode cX8_least 171 = .ok (.iload 4, 2) := by decide +kernel
theorem dX8_least_173 : decode cX8_least 173 = .ok (.ireturn, 1) := by decide +kernel
theorem dX8_findWorst_0 : decode cX8_findWorst 0 = .ok (.aload_n 0, 1) := by decide +kernel
theorem dX8_findWorst_1 : decode cX8_findWorst 1 = .ok (.ldc2_w 260, 3) := by decide +kernel
theorem dX8_findWorst_4 : decode cX8_findWorst 4 = .ok (.putfield 262, 3) := by decide +kernel
theorem dX8_findWorst_7 : decode cX8_findWorst 7 = .ok (.aload_n 0, 1) := by decide +kernel
theorem dX8_findWorst_8 : decode cX8_findWorst 8 = .ok (.lconst 0, 1) := by decide +kernel
theorem dX8_findWorst_9 : decode cX8_findWorst 9 = .ok (.putfield 265, 3) := by decide +kernel
theorem dX8_findWorst_12 : decode cX8_findWorst 12 = .ok (.aload_n 0, 1) := by decide +kernel
theorem dX8_findWorst_13 : decode cX8_findWorst 13 = .ok (.iconst 4, 1) := by decide +kernel
theorem dX8_findWorst_14 : decode cX8_findWorst 14 = .ok (.invokevirtual 250, 3) := by decide +kernel
theorem dX8_findWorst_17 : decode cX8_findWorst 17 = .ok (.istore_n 2, 1) := by decide +kernel
theorem dX8_findWorst_18 : decode cX8_findWorst 18 = .ok (.iload_n 2, 1) := by decide +kernel
theorem dX8_findWorst_19 : decode cX8_findWorst 19 = .ok (.invokestatic 229, 3) := by decide +kernel
theorem dX8_findWorst_22 : decode cX8_findWorst 22 = .ok (.istore_n 3, 1) := by decide +kernel
theorem dX8_findWorst_23 : decode cX8_findWorst 23 = .ok (.iconst 0, 1) := by decide +kernel
theorem dX8_findWorst_24 : decode cX8_findWorst 24 = .ok (.istore 4, 2) := by decide +kernel
theorem dX8_findWorst_26 : decode cX8_findWorst 26 = .ok (.iload 4, 2) := by decide +kernel
theorem dX8_findWorst_28 : decode cX8_findWorst 28 = .ok (.iconst 1, 1) := by decide +kernel
theorem dX8_findWorst_29 : decode cX8_findWorst 29 = .ok (.iload_n 3, 1) := by decide +kernel
theorem dX8_findWorst_30 : decode cX8_findWorst 30 = .ok (.ishl, 1) := by decide +kernel
theorem dX8_findWorst_31 : decode cX8_findWorst 31 = .ok (.if_icmp .ge 190, 3) := by decide +kernel
theorem dX8_findWorst_34 : decode cX8_findWorst 34 = .ok (.iconst 0, 1) := by decide +kernel
theorem dX8_findWorst_35 : decode cX8_findWorst 35 = .ok (.istore 5, 2) := by decide +kernel
theorem dX8_findWorst_37 : decode cX8_findWorst 37 = .ok (.iload 5, 2) := by decide +kernel
theorem dX8_findWorst_39 : decode cX8_findWorst 39 = .ok (.bipush 12, 2) := by decide +kernel
theorem dX8_findWorst_41 : decode cX8_findWorst 41 = .ok (.if_icmp .ge 23, 3) := by decide +kernel
theorem dX8_findWorst_44 : decode cX8_findWorst 44 = .ok (.aload_n 0, 1) := by decide +kernel
theorem dX8_findWorst_45 : decode cX8_findWorst 45 = .ok (.getfield 29, 3) := by decide +kernel
theorem dX8_findWorst_48 : decode cX8_findWorst 48 = .ok (.iload 5, 2) := by decide +kernel
theorem dX8_findWorst_50 : decode cX8_findWorst 50 = .ok (.aload_n 0, 1) := by decide +kernel
theorem dX8_findWorst_51 : decode cX8_findWorst 51 = .ok (.getfield 22, 3) := by decide +kernel
theorem dX8_findWorst_54 : decode cX8_findWorst 54 = .ok (.iload 5, 2) := by decide +kernel
theorem dX8_findWorst_56 : decode cX8_findWorst 56 = .ok (.iaload, 1) := by decide +kernel
theorem dX8_findWorst_57 : decode cX8_findWorst 57 = .ok (.iastore, 1) := by decide +kernel
theorem dX8_findWorst_58 : decode cX8_findWorst 58 = .ok (.iinc 5 1, 3) := by decide +kernel
theorem dX8_findWorst_61 : decode cX8_findWorst 61 = .ok (.goto (-24), 3) := by decide +kernel
theorem dX8_findWorst_64 : decode cX8_findWorst 64 = .ok (.iconst 0, 1) := by decide +kernel
theorem dX8_findWorst_65 : decode cX8_findWorst 65 = .ok (.istore 5, 2) := by decide +kernel
theorem dX8_findWorst_67 : decode cX8_findWorst 67 = .ok (.iconst 0, 1) := by decide +kernel
theorem dX8_findWorst_68 : decode cX8_findWorst 68 = .ok (.istore 6, 2) := by decide +kernel
theorem dX8_findWorst_70 : decode cX8_findWorst 70 = .ok (.iload 6, 2) := by decide +kernel
theorem dX8_findWorst_72 : decode cX8_findWorst 72 = .ok (.aload_n 0, 1) := by decide +kernel
theorem dX8_findWorst_73 : decode cX8_findWorst 73 = .ok (.getfield 69, 3) := by decide +kernel
theorem dX8_findWorst_76 : decode cX8_findWorst 76 = .ok (.if_icmp .ge 86, 3) := by decide +kernel
theorem dX8_findWorst_79 : decode cX8_findWorst 79 = .ok (.iload_n 2, 1) := by decide +kernel
theorem dX8_findWorst_80 : decode cX8_findWorst 80 = .ok (.iload 6, 2) := by decide +kernel
theorem dX8_findWorst_82 : decode cX8_findWorst 82 = .ok (.invokestatic 90, 3) := by decide +kernel
theorem dX8_findWorst_85 : decode cX8_findWorst 85 = .ok (.ifCond .eq 71, 3) := by decide +kernel
theorem dX8_findWorst_88 : decode cX8_findWorst 88 = .ok (.aload_n 0, 1) := by decide +kernel
theorem dX8_findWorst_89 : decode cX8_findWorst 89 = .ok (.getfield 13, 3) := by decide +kernel
theorem dX8_findWorst_92 : decode cX8_findWorst 92 = .ok (.iload 6, 2) := by decide +kernel
theorem dX8_findWorst_94 : decode cX8_findWorst 94 = .ok (.iaload, 1) := by decide +kernel
theorem dX8_findWorst_95 : decode cX8_findWorst 95 = .ok (.iload_n 1, 1) := by decide +kernel
theorem dX8_findWorst_96 : decode cX8_findWorst 96 = .ok (.if_icmp .le 15, 3) := by decide +kernel
theorem dX8_findWorst_99 : decode cX8_findWorst 99 = .ok (.aload_n 0, 1) := by decide +kernel
theorem dX8_findWorst_100 : decode cX8_findWorst 100 = .ok (.getfield 13, 3) := by decide +kernel
theorem dX8_findWorst_103 : decode cX8_findWorst 103 = .ok (.iload 6, 2) := by decide +kernel
theorem dX8_findWorst_105 : decode cX8_findWorst 105 = .ok (.iaload, 1) := by decide +kernel
theorem dX8_findWorst_106 : decode cX8_findWorst 106 = .ok (.iload_n 1, 1) := by decide +kernel
theorem dX8_findWorst_107 : decode cX8_findWorst 107 = .ok (.isub, 1) := by decide +kernel
theorem dX8_findWorst_108 : decode cX8_findWorst 108 = .ok (.goto 4, 3) := by decide +kernel
theorem dX8_findWorst_111 : decode cX8_findWorst 111 = .ok (.iconst 0, 1) := by decide +kernel
theorem dX8_findWorst_112 : decode cX8_findWorst 112 = .ok (.istore 7, 2) := by decide +kernel
theorem dX8_findWorst_114 : decode cX8_findWorst 114 = .ok (.aload_n 0, 1) := by decide +kernel
theorem dX8_findWorst_115 : decode cX8_findWorst 115 = .ok (.getfield 29, 3) := by decide +kernel
theorem dX8_findWorst_118 : decode cX8_findWorst 118 = .ok (.aload_n 0, 1) := by decide +kernel
theorem dX8_findWorst_119 : decode cX8_findWorst 119 = .ok (.getfield 16, 3) := by decide +kernel
theorem dX8_findWorst_122 : decode cX8_findWorst 122 = .ok (.iload 6, 2) := by decide +kernel
theorem dX8_findWorst_124 : decode cX8_findWorst 124 = .ok (.iaload, 1) := by decide +kernel
theorem dX8_findWorst_125 : decode cX8_findWorst 125 = .ok (.dup2, 1) := by decide +kernel
theorem dX8_findWorst_126 : decode cX8_findWorst 126 = .ok (.iaload, 1) := by decide +kernel
theorem dX8_findWorst_127 : decode cX8_findWorst 127 = .ok (.iload 4, 2) := by decide +kernel
theorem dX8_findWorst_129 : decode cX8_findWorst 129 = .ok (.iload 5, 2) := by decide +kernel
theorem dX8_findWorst_131 : decode cX8_findWorst 131 = .ok (.invokestatic 90, 3) := by decide +kernel
theorem dX8_findWorst_134 : decode cX8_findWorst 134 = .ok (.ifCond .eq 15, 3) := by decide +kernel
theorem dX8_findWorst_137 : decode cX8_findWorst 137 = .ok (.aload_n 0, 1) := by decide +kernel
theorem dX8_findWorst_138 : decode cX8_findWorst 138 = .ok (.getfield 13, 3) := by decide +kernel
theorem dX8_findWorst_141 : decode cX8_findWorst 141 = .ok (.iload 6, 2) := by decide +kernel
theorem dX8_findWorst_143 : decode cX8_findWorst 143 = .ok (.iaload, 1) := by decide +kernel
theorem dX8_findWorst_144 : decode cX8_findWorst 144 = .ok (.iload_n 1, 1) := by decide +kernel
theorem dX8_findWorst_145 : decode cX8_findWorst 145 = .ok (.iadd, 1) := by decide +kernel
theorem dX8_findWorst_146 : decode cX8_findWorst 146 = .ok (.goto 5, 3) := by decide +kernel
theorem dX8_findWorst_149 : decode cX8_findWorst 149 = .ok (.iload 7, 2) := by decide +kernel
theorem dX8_findWorst_151 : decode cX8_findWorst 151 = .ok (.iadd, 1) := by decide +kernel
theorem dX8_findWorst_152 : decode cX8_findWorst 152 = .ok (.iastore, 1) := by decide +kernel
theorem dX8_findWorst_153 : decode cX8_findWorst 153 = .ok (.iinc 5 1, 3) := by decide +kernel
theorem dX8_findWorst_156 : decode cX8_findWorst 156 = .ok (.iinc 6 1, 3) := by decide +kernel
theorem dX8_findWorst_159 : decode cX8_findWorst 159 = .ok (.goto (-89), 3) := by decide +kernel
theorem dX8_findWorst_162 : decode cX8_findWorst 162 = .ok (.aload_n 0, 1) := by decide +kernel
theorem dX8_findWorst_163 : decode cX8_findWorst 163 = .ok (.invokevirtual 132, 3) := by decide +kernel
theorem dX8_findWorst_166 : decode cX8_findWorst 166 = .ok (.aload_n 0, 1) := by decide +kernel
theorem dX8_findWorst_167 : decode cX8_findWorst 167 = .ok (.getfield 262, 3) := by decide +kernel
theorem dX8_findWorst_170 : decode cX8_findWorst 170 = .ok (.lconst 0, 1) := by decide +kernel
theorem dX8_findWorst_171 : decode cX8_findWorst 171 = .ok (.lcmp, 1) := by decide +kernel
theorem dX8_findWorst_172 : decode cX8_findWorst 172 = .ok (.ifCond .lt 27, 3) := by decide +kernel
theorem dX8_findWorst_175 : decode cX8_findWorst 175 = .ok (.aload_n 0, 1) := by decide +kernel
theorem dX8_findWorst_176 : decode cX8_findWorst 176 = .ok (.getfield 123, 3) := by decide +kernel
theorem dX8_findWorst_179 : decode cX8_findWorst 179 = .ok (.aload_n 0, 1) := by decide +kernel
theorem dX8_findWorst_180 : decode cX8_findWorst 180 = .ok (.getfield 262, 3) := by decide +kernel
theorem dX8_findWorst_183 : decode cX8_findWorst 183 = .ok (.lsub, 1) := by decide +kernel
theorem dX8_findWorst_184 : decode cX8_findWorst 184 = .ok (.aload_n 0, 1) := by decide +kernel
theorem dX8_findWorst_185 : decode cX8_findWorst 185 = .ok (.getfield 129, 3) := by decide +kernel
theorem dX8_findWorst_188 : decode cX8_findWorst 188 = .ok (.aload_n 0, 1) := by decide +kernel
theorem dX8_findWorst_189 : decode cX8_findWorst 189 = .ok (.getfield 265, 3) := by decide +kernel
theorem dX8_findWorst_192 : decode cX8_findWorst 192 = .ok (.lsub, 1) := by decide +kernel
theorem dX8_findWorst_193 : decode cX8_findWorst 193 = .ok (.invokestatic 137, 3) := by decide +kernel
theorem dX8_findWorst_196 : decode cX8_findWorst 196 = .ok (.ifCond .ne 19, 3) := by decide +kernel
theorem dX8_findWorst_199 : decode cX8_findWorst 199 = .ok (.aload_n 0, 1) := by decide +kernel
theorem dX8_findWorst_200 : decode cX8_findWorst 200 = .ok (.aload_n 0, 1) := by decide +kernel
theorem dX8_findWorst_201 : decode cX8_findWorst 201 = .ok (.getfield 123, 3) := by decide +kernel
theorem dX8_findWorst_204 : decode cX8_findWorst 204 = .ok (.putfield 262, 3) := by decide +kernel
theorem dX8_findWorst_207 : decode cX8_findWorst 207 = .ok (.aload_n 0, 1) := by decide +kernel
theorem dX8_findWorst_208 : decode cX8_findWorst 208 = .ok (.aload_n 0, 1) := by decide +kernel
theorem dX8_findWorst_209 : decode cX8_findWorst 209 = .ok (.getfield 129, 3) := by decide +kernel
theorem dX8_findWorst_212 : decode cX8_findWorst 212 = .ok (.putfield 265, 3) := by decide +kernel
theorem dX8_findWorst_215 : decode cX8_findWorst 215 = .ok (.iinc 4 1, 3) := by decide +kernel
theorem dX8_findWorst_218 : decode cX8_findWorst 218 = .ok (.goto (-192), 3) := by decide +kernel
theorem dX8_findWorst_221 : decode cX8_findWorst 221 = .ok (.return_, 1) := by decide +kernel
theorem dX8_sure_0 : decode cX8_sure 0 = .ok (.iload_n 1, 1) := by decide +kernel
theorem dX8_sure_1 : decode cX8_sure 1 = .ok (.i2l, 1) := by decide +kernel
theorem dX8_sure_2 : decode cX8_sure 2 = .ok (.lconst 0, 1) := by decide +kernel
theorem dX8_sure_3 : decode cX8_sure 3 = .ok (.ldc2_w 196, 3) := by decide +kernel
theorem dX8_sure_6 : decode cX8_sure 6 = .ok (.invokestatic 72, 3) := by decide +kernel
theorem dX8_sure_9 : decode cX8_sure 9 = .ok (.ifCond .ne 5, 3) := by decide +kernel
theorem dX8_sure_12 : decode cX8_sure 12 = .ok (.iconst (-1), 1) := by decide +kernel
theorem dX8_sure_13 : decode cX8_sure 13 = .ok (.ireturn, 1) := by decide +kernel
theorem dX8_sure_14 : decode cX8_sure 14 = .ok (.aload_n 0, 1) := by decide +kernel
theorem dX8_sure_15 : decode cX8_sure 15 = .ok (.iconst 4, 1) := by decide +kernel
theorem dX8_sure_16 : decode cX8_sure 16 = .ok (.invokevirtual 250, 3) := by decide +kernel
theorem dX8_sure_19 : decode cX8_sure 19 = .ok (.invokestatic 229, 3) := by decide +kernel
theorem dX8_sure_22 : decode cX8_sure 22 = .ok (.bipush 8, 2) := by decide +kernel
theorem dX8_sure_24 : decode cX8_sure 24 = .ok (.if_icmp .le 6, 3) := by decide +kernel
theorem dX8_sure_27 : decode cX8_sure 27 = .ok (.bipush (-3), 2) := by decide +kernel
theorem dX8_sure_29 : decode cX8_sure 29 = .ok (.ireturn, 1) := by decide +kernel
theorem dX8_sure_30 : decode cX8_sure 30 = .ok (.aload_n 0, 1) := by decide +kernel
theorem dX8_sure_31 : decode cX8_sure 31 = .ok (.iload_n 1, 1) := by decide +kernel
theorem dX8_sure_32 : decode cX8_sure 32 = .ok (.invokevirtual 268, 3) := by decide +kernel
theorem dX8_sure_35 : decode cX8_sure 35 = .ok (.aload_n 0, 1) := by decide +kernel
theorem dX8_sure_36 : decode cX8_sure 36 = .ok (.getfield 262, 3) := by decide +kernel
theorem dX8_sure_39 : decode cX8_sure 39 = .ok (.ldc2_w 135, 3) := by decide +kernel
theorem dX8_sure_42 : decode cX8_sure 42 = .ok (.aload_n 0, 1) := by decide +kernel
theorem dX8_sure_43 : decode cX8_sure 43 = .ok (.getfield 25, 3) := by decide +kernel
theorem dX8_sure_46 : decode cX8_sure 46 = .ok (.i2l, 1) := by decide +kernel
theorem dX8_sure_47 : decode cX8_sure 47 = .ok (.lmul, 1) := by decide +kernel
theorem dX8_sure_48 : decode cX8_sure 48 = .ok (.aload_n 0, 1) := by decide +kernel
theorem dX8_sure_49 : decode cX8_sure 49 = .ok (.getfield 25, 3) := by decide +kernel
theorem dX8_sure_52 : decode cX8_sure 52 = .ok (.i2l, 1) := by decide +kernel
theorem dX8_sure_53 : decode cX8_sure 53 = .ok (.lmul, 1) := by decide +kernel
theorem dX8_sure_54 : decode cX8_sure 54 = .ok (.lsub, 1) := by decide +kernel
theorem dX8_sure_55 : decode cX8_sure 55 = .ok (.aload_n 0, 1) := by decide +kernel
theorem dX8_sure_56 : decode cX8_sure 56 = .ok (.getfield 265, 3) := by decide +kernel
theorem dX8_sure_59 : decode cX8_sure 59 = .ok (.invokestatic 137, 3) := by decide +kernel
theorem dX8_sure_62 : decode cX8_sure 62 = .ok (.ifCond .eq 7, 3) := by decide +kernel
theorem dX8_sure_65 : decode cX8_sure 65 = .ok (.iconst 1, 1) := by decide +kernel
theorem dX8_sure_66 : decode cX8_sure 66 = .ok (.goto 4, 3) := by decide +kernel
theorem dX8_sure_69 : decode cX8_sure 69 = .ok (.iconst 0, 1) := by decide +kernel
theorem dX8_sure_70 : decode cX8_sure 70 = .ok (.ireturn, 1) := by decide +kernel
theorem dX8_worst_0 : decode cX8_worst 0 = .ok (.iload_n 1, 1) := by decide +kernel
theorem dX8_worst_1 : decode cX8_worst 1 = .ok (.i2l, 1) := by decide +kernel
theorem dX8_worst_2 : decode cX8_worst 2 = .ok (.lconst 0, 1) := by decide +kernel
theorem dX8_worst_3 : decode cX8_worst 3 = .ok (.ldc2_w 196, 3) := by decide +kernel
theorem dX8_worst_6 : decode cX8_worst 6 = .ok (.invokestatic 72, 3) := by decide +kernel
theorem dX8_worst_9 : decode cX8_worst 9 = .ok (.ifCond .eq 13, 3) := by decide +kernel
theorem dX8_worst_12 : decode cX8_worst 12 = .ok (.iload_n 2, 1) := by decide +kernel
theorem dX8_worst_13 : decode cX8_worst 13 = .ok (.i2l, 1) := by decide +kernel
theorem dX8_worst_14 : decode cX8_worst 14 = .ok (.lconst 0, 1) := by decide +kernel
theorem dX8_worst_15 : decode cX8_worst 15 = .ok (.lconst 1, 1) := by decide +kernel
theorem dX8_worst_16 : decode cX8_worst 16 = .ok (.invokestatic 72, 3) := by decide +kernel
theorem dX8_worst_19 : decode cX8_worst 19 = .ok (.ifCond .ne 6, 3) := by decide +kernel
theorem dX8_worst_22 : decode cX8_worst 22 = .ok (.ldc 155, 2) := by decide +kernel
theorem dX8_worst_24 : decode cX8_worst 24 = .ok (.ireturn, 1) := by decide +kernel
theorem dX8_worst_25 : decode cX8_worst 25 = .ok (.aload_n 0, 1) := by decide +kernel
theorem dX8_worst_26 : decode cX8_worst 26 = .ok (.iconst 4, 1) := by decide +kernel
theorem dX8_worst_27 : decode cX8_worst 27 = .ok (.invokevirtual 250, 3) := by decide +kernel
theorem dX8_worst_30 : decode cX8_worst 30 = .ok (.invokestatic 229, 3) := by decide +kernel
theorem dX8_worst_33 : decode cX8_worst 33 = .ok (.bipush 8, 2) := by decide +kernel
theorem dX8_worst_35 : decode cX8_worst 35 = .ok (.if_icmp .le 7, 3) := by decide +kernel
theorem dX8_worst_38 : decode cX8_worst 38 = .ok (.ldc_w 271, 3) := by decide +kernel
theorem dX8_worst_41 : decode cX8_worst 41 = .ok (.ireturn, 1) := by decide +kernel
theorem dX8_worst_42 : decode cX8_worst 42 = .ok (.aload_n 0, 1) := by decide +kernel
theorem dX8_worst_43 : decode cX8_worst 43 = .ok (.iload_n 1, 1) := by decide +kernel
theorem dX8_worst_44 : decode cX8_worst 44 = .ok (.invokevirtual 268, 3) := by decide +kernel
theorem dX8_worst_47 : decode cX8_worst 47 = .ok (.iload_n 2, 1) := by decide +kernel
theorem dX8_worst_48 : decode cX8_worst 48 = .ok (.ifCond .ne 10, 3) := by decide +kernel
theorem dX8_worst_51 : decode cX8_worst 51 = .ok (.aload_n 0, 1) := by decide +kernel
theorem dX8_worst_52 : decode cX8_worst 52 = .ok (.getfield 262, 3) := by decide +kernel
theorem dX8_worst_55 : decode cX8_worst 55 = .ok (.goto 7, 3) := by decide +kernel
theorem dX8_worst_58 : decode cX8_worst 58 = .ok (.aload_n 0, 1) := by decide +kernel
theorem dX8_worst_59 : decode cX8_worst 59 = .ok (.getfield 265, 3) := by decide +kernel
theorem dX8_worst_62 : decode cX8_worst 62 = .ok (.l2i, 1) := by decide +kernel
theorem dX8_worst_63 : decode cX8_worst 63 = .ok (.ireturn, 1) := by decide +kernel
theorem dX8_carried_0 : decode cX8_carried 0 = .ok (.iload_n 1, 1) := by decide +kernel
theorem dX8_carried_1 : decode cX8_carried 1 = .ok (.bipush 40, 2) := by decide +kernel
theorem dX8_carried_3 : decode cX8_carried 3 = .ok (.if_icmp .ge 181, 3) := by decide +kernel
theorem dX8_carried_6 : decode cX8_carried 6 = .ok (.iload_n 1, 1) := by decide +kernel
theorem dX8_carried_7 : decode cX8_carried 7 = .ok (.bipush 10, 2) := by decide +kernel
theorem dX8_carried_9 : decode cX8_carried 9 = .ok (.irem, 1) := by decide +kernel
theorem dX8_carried_10 : decode cX8_carried 10 = .ok (.istore 4, 2) := by decide +kernel
theorem dX8_carried_12 : decode cX8_carried 12 = .ok (.iload_n 1, 1) := by decide +kernel
theorem dX8_carried_13 : decode cX8_carried 13 = .ok (.bipush 10, 2) := by decide +kernel
theorem dX8_carried_15 : decode cX8_carried 15 = .ok (.idiv, 1) := by decide +kernel
theorem dX8_carried_16 : decode cX8_carried 16 = .ok (.istore 5, 2) := by decide +kernel
theorem dX8_carried_18 : decode cX8_carried 18 = .ok (.aload_n 0, 1) := by decide +kernel
theorem dX8_carried_19 : decode cX8_carried 19 = .ok (.getfield 7, 3) := by decide +kernel
theorem dX8_carried_22 : decode cX8_carried 22 = .ok (.iload 4, 2) := by decide +kernel
theorem dX8_carried_24 : decode cX8_carried 24 = .ok (.iload_n 3, 1) := by decide +kernel
theorem dX8_carried_25 : decode cX8_carried 25 = .ok (.ifCond .eq 12, 3) := by decide +kernel
theorem dX8_carried_28 : decode cX8_carried 28 = .ok (.iload 5, 2) := by decide +kernel
theorem dX8_carried_30 : decode cX8_carried 30 = .ok (.ifCond .ne 7, 3) := by decide +kernel
theorem dX8_carried_33 : decode cX8_carried 33 = .ok (.iload_n 2, 1) := by decide +kernel
theorem dX8_carried_34 : decode cX8_carried 34 = .ok (.goto 10, 3) := by decide +kernel
theorem dX8_carried_37 : decode cX8_carried 37 = .ok (.aload_n 0, 1) := by decide +kernel
theorem dX8_carried_38 : decode cX8_carried 38 = .ok (.getfield 7, 3) := by decide +kernel
theorem dX8_carried_41 : decode cX8_carried 41 = .ok (.iload 4, 2) := by decide +kernel
theorem dX8_carried_43 : decode cX8_carried 43 = .ok (.iaload, 1) := by decide +kernel
theorem dX8_carried_44 : decode cX8_carried 44 = .ok (.iastore, 1) := by decide +kernel
theorem dX8_carried_45 : decode cX8_carried 45 = .ok (.aload_n 0, 1) := by decide +kernel
theorem dX8_carried_46 : decode cX8_carried 46 = .ok (.getfield 13, 3) := by decide +kernel
theorem dX8_carried_49 : decode cX8_carried 49 = .ok (.iload 4, 2) := by decide +kernel
theorem dX8_carried_51 : decode cX8_carried 51 = .ok (.iload_n 3, 1) := by decide +kernel
theorem dX8_carried_52 : decode cX8_carried 52 = .ok (.ifCond .eq 13, 3) := by decide +kernel
theorem dX8_carried_55 : decode cX8_carried 55 = .ok (.iload 5, 2) := by decide +kernel
theorem dX8_carried_57 : decode cX8_carried 57 = .ok (.iconst 1, 1) := by decide +kernel
theorem dX8_carried_58 : decode cX8_carried 58 = .ok (.if_icmp .ne 7, 3) := by decide +kernel
theorem dX8_carried_61 : decode cX8_carried 61 = .ok (.iload_n 2, 1) := by decide +kernel
theorem dX8_carried_62 : decode cX8_carried 62 = .ok (.goto 10, 3) := by decide +kernel
theorem dX8_carried_65 : decode cX8_carried 65 = .ok (.aload_n 0, 1) := by decide +kernel
theorem dX8_carried_66 : decode cX8_carried 66 = .ok (.getfield 13, 3) := by decide +kernel
theorem dX8_carried_69 : decode cX8_carried 69 = .ok (.iload 4, 2) := by decide +kernel
theorem dX8_carried_71 : decode cX8_carried 71 = .ok (.iaload, 1) := by decide +kernel
theorem dX8_carried_72 : decode cX8_carried 72 = .ok (.iastore, 1) := by decide +kernel
theorem dX8_carried_73 : decode cX8_carried 73 = .ok (.aload_n 0, 1) := by decide +kernel
theorem dX8_carried_74 : decode cX8_carried 74 = .ok (.getfield 16, 3) := by decide +kernel
theorem dX8_carried_77 : decode cX8_carried 77 = .ok (.iload 4, 2) := by decide +kernel
theorem dX8_carried_79 : decode cX8_carried 79 = .ok (.iload_n 3, 1) := by decide +kernel
theorem dX8_carried_80 : decode cX8_carried 80 = .ok (.ifCond .eq 13, 3) := by decide +kernel
theorem dX8_carried_83 : decode cX8_carried 83 = .ok (.iload 5, 2) := by decide +kernel
theorem dX8_carried_85 : decode cX8_carried 85 = .ok (.iconst 2, 1) := by decide +kernel
theorem dX8_carried_86 : decode cX8_carried 86 = .ok (.if_icmp .ne 7, 3) := by decide +kernel
theorem dX8_carried_89 : decode cX8_carried 89 = .ok (.iload_n 2, 1) := by decide +kernel
theorem dX8_carried_90 : decode cX8_carried 90 = .ok (.goto 10, 3) := by decide +kernel
theorem dX8_carried_93 : decode cX8_carried 93 = .ok (.aload_n 0, 1) := by decide +kernel
theorem dX8_carried_94 : decode cX8_carried 94 = .ok (.getfield 16, 3) := by decide +kernel
theorem dX8_carried_97 : decode cX8_carried 97 = .ok (.iload 4, 2) := by decide +kernel
theorem dX8_carried_99 : decode cX8_carried 99 = .ok (.iaload, 1) := by decide +kernel
theorem dX8_carried_100 : decode cX8_carried 100 = .ok (.iastore, 1) := by decide +kernel
theorem dX8_carried_101 : decode cX8_carried 101 = .ok (.aload_n 0, 1) := by decide +kernel
theorem dX8_carried_102 : decode cX8_carried 102 = .ok (.getfield 19, 3) := by decide +kernel
theorem dX8_carried_105 : decode cX8_carried 105 = .ok (.iload 4, 2) := by decide +kernel
theorem dX8_carried_107 : decode cX8_carried 107 = .ok (.iload_n 3, 1) := by decide +kernel
theorem dX8_carried_108 : decode cX8_carried 108 = .ok (.ifCond .eq 13, 3) := by decide +kernel
theorem dX8_carried_111 : decode cX8_carried 111 = .ok (.iload 5, 2) := by decide +kernel
theorem dX8_carried_113 : decode cX8_carried 113 = .ok (.iconst 3, 1) := by decide +kernel
theorem dX8_carried_114 : decode cX8_carried 114 = .ok (.if_icmp .ne 7, 3) := by decide +kernel
theorem dX8_carried_117 : decode cX8_carried 117 = .ok (.iload_n 2, 1) := by decide +kernel
theorem dX8_carried_118 : decode cX8_carried 118 = .ok (.goto 10, 3) := by decide +kernel
theorem dX8_carried_121 : decode cX8_carried 121 = .ok (.aload_n 0, 1) := by decide +kernel
theorem dX8_carried_122 : decode cX8_carried 122 = .ok (.getfield 19, 3) := by decide +kernel
theorem dX8_carried_125 : decode cX8_carried 125 = .ok (.iload 4, 2) := by decide +kernel
theorem dX8_carried_127 : decode cX8_carried 127 = .ok (.iaload, 1) := by decide +kernel
theorem dX8_carried_128 : decode cX8_carried 128 = .ok (.iastore, 1) := by decide +kernel
theorem dX8_carried_129 : decode cX8_carried 129 = .ok (.iload 5, 2) := by decide +kernel
theorem dX8_carried_131 : decode cX8_carried 131 = .ok (.ifCond .ne 13, 3) := by decide +kernel
theorem dX8_carried_134 : decode cX8_carried 134 = .ok (.aload_n 0, 1) := by decide +kernel
theorem dX8_carried_135 : decode cX8_carried 135 = .ok (.getfield 7, 3) := by decide +kernel
theorem dX8_carried_138 : decode cX8_carried 138 = .ok (.iload 4, 2) := by decide +kernel
theorem dX8_carried_140 : decode cX8_carried 140 = .ok (.iaload, 1) := by decide +kernel
theorem dX8_carried_141 : decode cX8_carried 141 = .ok (.goto 42, 3) := by decide +kernel
theorem dX8_carried_144 : decode cX8_carried 144 = .ok (.iload 5, 2) := by decide +kernel
theorem dX8_carried_146 : decode cX8_carried 146 = .ok (.iconst 1, 1) := by decide +kernel
theorem dX8_carried_147 : decode cX8_carried 147 = .ok (.if_icmp .ne 13, 3) := by decide +kernel
theorem dX8_carried_150 : decode cX8_carried 150 = .ok (.aload_n 0, 1) := by decide +kernel
theorem dX8_carried_151 : decode cX8_carried 151 = .ok (.getfield 13, 3) := by decide +kernel
theorem dX8_carried_154 : decode cX8_carried 154 = .ok (.iload 4, 2) := by decide +kernel
theorem dX8_carried_156 : decode cX8_carried 156 = .ok (.iaload, 1) := by decide +kernel
theorem dX8_carried_157 : decode cX8_carried 157 = .ok (.goto 26, 3) := by decide +kernel
theorem dX8_carried_160 : decode cX8_carried 160 = .ok (.iload 5, 2) := by decide +kernel
theorem dX8_carried_162 : decode cX8_carried 162 = .ok (.iconst 2, 1) := by decide +kernel
theorem dX8_carried_163 : decode cX8_carried 163 = .ok (.if_icmp .ne 13, 3) := by decide +kernel
theorem dX8_carried_166 : decode cX8_carried 166 = .ok (.aload_n 0, 1) := by decide +kernel
theorem dX8_carried_167 : decode cX8_carried 167 = .ok (.getfield 16, 3) := by decide +kernel
theorem dX8_carried_170 : decode cX8_carried 170 = .ok (.iload 4, 2) := by decide +kernel
theorem dX8_carried_172 : decode cX8_carried 172 = .ok (.iaload, 1) := by decide +kernel
theorem dX8_carried_173 : decode cX8_carried 173 = .ok (.goto 10, 3) := by decide +kernel
theorem dX8_carried_176 : decode cX8_carried 176 = .ok (.aload_n 0, 1) := by decide +kernel
theorem dX8_carried_177 : decode cX8_carried 177 = .ok (.getfield 19, 3) := by decide +kernel
theorem dX8_carried_180 : decode cX8_carried 180 = .ok (.iload 4, 2) := by decide +kernel
theorem dX8_carried_182 : decode cX8_carried 182 = .ok (.iaload, 1) := by decide +kernel
theorem dX8_carried_183 : decode cX8_carried 183 = .ok (.ireturn, 1) := by decide +kernel
theorem dX8_carried_184 : decode cX8_carried 184 = .ok (.iload_n 1, 1) := by decide +kernel
theorem dX8_carried_185 : decode cX8_carried 185 = .ok (.bipush 52, 2) := by decide +kernel
theorem dX8_carried_187 : decode cX8_carried 187 = .ok (.if_icmp .ge 39, 3) := by decide +kernel
theorem dX8_carried_190 : decode cX8_carried 190 = .ok (.aload_n 0, 1) := by decide +kernel
theorem dX8_carried_191 : decode cX8_carried 191 = .ok (.getfield 22, 3) := by decide +kernel
theorem dX8_carried_194 : decode cX8_carried 194 = .ok (.iload_n 1, 1) := by decide +kernel
theorem dX8_carried_195 : decode cX8_carried 195 = .ok (.bipush 40, 2) := by decide +kernel
theorem dX8_carried_197 : decode cX8_carried 197 = .ok (.isub, 1) := by decide +kernel
theorem dX8_carried_198 : decode cX8_carried 198 = .ok (.iload_n 3, 1) := by decide +kernel
theorem dX8_carried_199 : decode cX8_carried 199 = .ok (.ifCond .eq 7, 3) := by decide +kernel
theorem dX8_carried_202 : decode cX8_carried 202 = .ok (.iload_n 2, 1) := by decide +kernel
theorem dX8_carried_203 : decode cX8_carried 203 = .ok (.goto 12, 3) := by decide +kernel
theorem dX8_carried_206 : decode cX8_carried 206 = .ok (.aload_n 0, 1) := by decide +kernel
theorem dX8_carried_207 : decode cX8_carried 207 = .ok (.getfield 22, 3) := by decide +kernel
theorem dX8_carried_210 : decode cX8_carried 210 = .ok (.iload_n 1, 1) := by decide +kernel
theorem dX8_carried_211 : decode cX8_carried 211 = .ok (.bipush 40, 2) := by decide +kernel
theorem dX8_carried_213 : decode cX8_carried 213 = .ok (.isub, 1) := by decide +kernel
theorem dX8_carried_214 : decode cX8_carried 214 = .ok (.iaload, 1) := by decide +kernel
theorem dX8_carried_215 : decode cX8_carried 215 = .ok (.iastore, 1) := by decide +kernel
theorem dX8_carried_216 : decode cX8_carried 216 = .ok (.aload_n 0, 1) := by decide +kernel
theorem dX8_carried_217 : decode cX8_carried 217 = .ok (.getfield 22, 3) := by decide +kernel
theorem dX8_carried_220 : decode cX8_carried 220 = .ok (.iload_n 1, 1) := by decide +kernel
theorem dX8_carried_221 : decode cX8_carried 221 = .ok (.bipush 40, 2) := by decide +kernel
theorem dX8_carried_223 : decode cX8_carried 223 = .ok (.isub, 1) := by decide +kernel
theorem dX8_carried_224 : decode cX8_carried 224 = .ok (.iaload, 1) := by decide +kernel
theorem dX8_carried_225 : decode cX8_carried 225 = .ok (.ireturn, 1) := by decide +kernel
theorem dX8_carried_226 : decode cX8_carried 226 = .ok (.aload_n 0, 1) := by decide +kernel
theorem dX8_carried_227 : decode cX8_carried 227 = .ok (.iload_n 3, 1) := by decide +kernel
theorem dX8_carried_228 : decode cX8_carried 228 = .ok (.ifCond .eq 13, 3) := by decide +kernel
theorem dX8_carried_231 : decode cX8_carried 231 = .ok (.iload_n 1, 1) := by decide +kernel
theorem dX8_carried_232 : decode cX8_carried 232 = .ok (.bipush 52, 2) := by decide +kernel
theorem dX8_carried_234 : decode cX8_carried 234 = .ok (.if_icmp .ne 7, 3) := by decide +kernel
theorem dX8_carried_237 : decode cX8_carried 237 = .ok (.iload_n 2, 1) := by decide +kernel
theorem dX8_carried_238 : decode cX8_carried 238 = .ok (.goto 7, 3) := by decide +kernel
theorem dX8_carried_241 : decode cX8_carried 241 = .ok (.aload_n 0, 1) := by decide +kernel
theorem dX8_carried_242 : decode cX8_carried 242 = .ok (.getfield 69, 3) := by decide +kernel
theorem dX8_carried_245 : decode cX8_carried 245 = .ok (.putfield 69, 3) := by decide +kernel
theorem dX8_carried_248 : decode cX8_carried 248 = .ok (.aload_n 0, 1) := by decide +kernel
theorem dX8_carried_249 : decode cX8_carried 249 = .ok (.iload_n 3, 1) := by decide +kernel
theorem dX8_carried_250 : decode cX8_carried 250 = .ok (.ifCond .eq 13, 3) := by decide +kernel
theorem dX8_carried_253 : decode cX8_carried 253 = .ok (.iload_n 1, 1) := by decide +kernel
theorem dX8_carried_254 : decode cX8_carried 254 = .ok (.bipush 53, 2) := by decide +kernel
theorem dX8_carried_256 : decode cX8_carried 256 = .ok (.if_icmp .ne 7, 3) := by decide +kernel
theorem dX8_carried_259 : decode cX8_carried 259 = .ok (.iload_n 2, 1) := by decide +kernel
theorem dX8_carried_260 : decode cX8_carried 260 = .ok (.goto 7, 3) := by decide +kernel
theorem dX8_carried_263 : decode cX8_carried 263 = .ok (.aload_n 0, 1) := by decide +kernel
theorem dX8_carried_264 : decode cX8_carried 264 = .ok (.getfield 25, 3) := by decide +kernel
theorem dX8_carried_267 : decode cX8_carried 267 = .ok (.putfield 25, 3) := by decide +kernel
theorem dX8_carried_270 : decode cX8_carried 270 = .ok (.aload_n 0, 1) := by decide +kernel
theorem dX8_carried_271 : decode cX8_carried 271 = .ok (.iload_n 3, 1) := by decide +kernel
theorem dX8_carried_272 : decode cX8_carried 272 = .ok (.ifCond .eq 13, 3) := by decide +kernel
theorem dX8_carried_275 : decode cX8_carried 275 = .ok (.iload_n 1, 1) := by decide +kernel
theorem dX8_carried_276 : decode cX8_carried 276 = .ok (.bipush 54, 2) := by decide +kernel
theorem dX8_carried_278 : decode cX8_carried 278 = .ok (.if_icmp .ne 7, 3) := by decide +kernel
theorem dX8_carried_281 : decode cX8_carried 281 = .ok (.iload_n 2, 1) := by decide +kernel
theorem dX8_carried_282 : decode cX8_carried 282 = .ok (.goto 7, 3) := by decide +kernel
theorem dX8_carried_285 : decode cX8_carried 285 = .ok (.aload_n 0, 1) := by decide +kernel
theorem dX8_carried_286 : decode cX8_carried 286 = .ok (.getfield 156, 3) := by decide +kernel
theorem dX8_carried_289 : decode cX8_carried 289 = .ok (.putfield 156, 3) := by decide +kernel
theorem dX8_carried_292 : decode cX8_carried 292 = .ok (.aload_n 0, 1) := by decide +kernel
theorem dX8_carried_293 : decode cX8_carried 293 = .ok (.iload_n 3, 1) := by decide +kernel
theorem dX8_carried_294 : decode cX8_carried 294 = .ok (.ifCond .eq 13, 3) := by decide +kernel
theorem dX8_carried_297 : decode cX8_carried 297 = .ok (.iload_n 1, 1) := by decide +kernel
theorem dX8_carried_298 : decode cX8_carried 298 = .ok (.bipush 55, 2) := by decide +kernel
theorem dX8_carried_300 : decode cX8_carried 300 = .ok (.if_icmp .ne 7, 3) := by decide +kernel
theorem dX8_carried_303 : decode cX8_carried 303 = .ok (.iload_n 2, 1) := by decide +kernel
theorem dX8_carried_304 : decode cX8_carried 304 = .ok (.goto 7, 3) := by decide +kernel
theorem dX8_carried_307 : decode cX8_carried 307 = .ok (.aload_n 0, 1) := by decide +kernel
theorem dX8_carried_308 : decode cX8_carried 308 = .ok (.getfield 159, 3) := by decide +kernel
theorem dX8_carried_311 : decode cX8_carried 311 = .ok (.putfield 159, 3) := by decide +kernel
theorem dX8_carried_314 : decode cX8_carried 314 = .ok (.iload_n 1, 1) := by decide +kernel
theorem dX8_carried_315 : decode cX8_carried 315 = .ok (.bipush 52, 2) := by decide +kernel
theorem dX8_carried_317 : decode cX8_carried 317 = .ok (.if_icmp .ne 10, 3) := by decide +kernel
theorem dX8_carried_320 : decode cX8_carried 320 = .ok (.aload_n 0, 1) := by decide +kernel
theorem dX8_carried_321 : decode cX8_carried 321 = .ok (.getfield 69, 3) := by decide +kernel
theorem dX8_carried_324 : decode cX8_carried 324 = .ok (.goto 33, 3) := by decide +kernel
theorem dX8_carried_327 : decode cX8_carried 327 = .ok (.iload_n 1, 1) := by decide +kernel
theorem dX8_carried_328 : decode cX8_carried 328 = .ok (.bipush 53, 2) := by decide +kernel
theorem dX8_carried_330 : decode cX8_carried 330 = .ok (.if_icmp .ne 10, 3) := by decide +kernel
theorem dX8_carried_333 : decode cX8_carried 333 = .ok (.aload_n 0, 1) := by decide +kernel
theorem dX8_carried_334 : decode cX8_carried 334 = .ok (.getfield 25, 3) := by decide +kernel
theorem dX8_carried_337 : decode cX8_carried 337 = .ok (.goto 20, 3) := by decide +kernel
theorem dX8_carried_340 : decode cX8_carried 340 = .ok (.iload_n 1, 1) := by decide +kernel
theorem dX8_carried_341 : decode cX8_carried 341 = .ok (.bipush 54, 2) := by decide +kernel
theorem dX8_carried_343 : decode cX8_carried 343 = .ok (.if_icmp .ne 10, 3) := by decide +kernel
theorem dX8_carried_346 : decode cX8_carried 346 = .ok (.aload_n 0, 1) := by decide +kernel
theorem dX8_carried_347 : decode cX8_carried 347 = .ok (.getfield 156, 3) := by decide +kernel
theorem dX8_carried_350 : decode cX8_carried 350 = .ok (.goto 7, 3) := by decide +kernel
theorem dX8_carried_353 : decode cX8_carried 353 = .ok (.aload_n 0, 1) := by decide +kernel
theorem dX8_carried_354 : decode cX8_carried 354 = .ok (.getfield 159, 3) := by decide +kernel
theorem dX8_carried_357 : decode cX8_carried 357 = .ok (.ireturn, 1) := by decide +kernel
theorem dX8_image_0 : decode cX8_image 0 = .ok (.iconst 0, 1) := by decide +kernel
theorem dX8_image_1 : decode cX8_image 1 = .ok (.istore_n 1, 1) := by decide +kernel
theorem dX8_image_2 : decode cX8_image 2 = .ok (.iload_n 1, 1) := by decide +kernel
theorem dX8_image_3 : decode cX8_image 3 = .ok (.bipush 56, 2) := by decide +kernel
theorem dX8_image_5 : decode cX8_image 5 = .ok (.if_icmp .ge 22, 3) := by decide +kernel
theorem dX8_image_8 : decode cX8_image 8 = .ok (.aload_n 0, 1) := by decide +kernel
theorem dX8_image_9 : decode cX8_image 9 = .ok (.getfield 54, 3) := by decide +kernel
theorem dX8_image_12 : decode cX8_image 12 = .ok (.iload_n 1, 1) := by decide +kernel
theorem dX8_image_13 : decode cX8_image 13 = .ok (.aload_n 0, 1) := by decide +kernel
theorem dX8_image_14 : decode cX8_image 14 = .ok (.iload_n 1, 1) := by decide +kernel
theorem dX8_image_15 : decode cX8_image 15 = .ok (.iconst 0, 1) := by decide +kernel
theorem dX8_image_16 : decode cX8_image 16 = .ok (.iconst 0, 1) := by decide +kernel
theorem dX8_image_17 : decode cX8_image 17 = .ok (.invokevirtual 272, 3) := by decide +kernel
theorem dX8_image_20 : decode cX8_image 20 = .ok (.iastore, 1) := by decide +kernel
theorem dX8_image_21 : decode cX8_image 21 = .ok (.iinc 1 1, 3) := by decide +kernel
theorem dX8_image_24 : decode cX8_image 24 = .ok (.goto (-22), 3) := by decide +kernel
theorem dX8_image_27 : decode cX8_image 27 = .ok (.aload_n 0, 1) := by decide +kernel
theorem dX8_image_28 : decode cX8_image 28 = .ok (.iconst 1, 1) := by decide +kernel
theorem dX8_image_29 : decode cX8_image 29 = .ok (.putfield 276, 3) := by decide +kernel
theorem dX8_image_32 : decode cX8_image 32 = .ok (.iconst 1, 1) := by decide +kernel
theorem dX8_image_33 : decode cX8_image 33 = .ok (.ireturn, 1) := by decide +kernel
theorem dX8_restore_0 : decode cX8_restore 0 = .ok (.aload_n 0, 1) := by decide +kernel
theorem dX8_restore_1 : decode cX8_restore 1 = .ok (.getfield 276, 3) := by decide +kernel
theorem dX8_restore_4 : decode cX8_restore 4 = .ok (.ifCond .ne 6, 3) := by decide +kernel
theorem dX8_restore_7 : decode cX8_restore 7 = .ok (.bipush (-4), 2) := by decide +kernel
theorem dX8_restore_9 : decode cX8_restore 9 = .ok (.ireturn, 1) := by decide +kernel
theorem dX8_restore_10 : decode cX8_restore 10 = .ok (.iconst 0, 1) := by decide +kernel
theorem dX8_restore_11 : decode cX8_restore 11 = .ok (.istore_n 1, 1) := by decide +kernel
theorem dX8_restore_12 : decode cX8_restore 12 = .ok (.iload_n 1, 1) := by decide +kernel
theorem dX8_restore_13 : decode cX8_restore 13 = .ok (.bipush 56, 2) := by decide +kernel
theorem dX8_restore_15 : decode cX8_restore 15 = .ok (.if_icmp .ge 22, 3) := by decide +kernel
theorem dX8_restore_18 : decode cX8_restore 18 = .ok (.aload_n 0, 1) := by decide +kernel
theorem dX8_restore_19 : decode cX8_restore 19 = .ok (.iload_n 1, 1) := by decide +kernel
theorem dX8_restore_20 : decode cX8_restore 20 = .ok (.aload_n 0, 1) := by decide +kernel
theorem dX8_restore_21 : decode cX8_restore 21 = .ok (.getfield 54, 3) := by decide +kernel
theorem dX8_restore_24 : decode cX8_restore 24 = .ok (.iload_n 1, 1) := by decide +kernel
theorem dX8_restore_25 : decode cX8_restore 25 = .ok (.iaload, 1) := by decide +kernel
theorem dX8_restore_26 : decode cX8_restore 26 = .ok (.iconst 1, 1) := by decide +kernel
theorem dX8_restore_27 : decode cX8_restore 27 = .ok (.invokevirtual 272, 3) := by decide +kernel
theorem dX8_restore_30 : decode cX8_restore 30 = .ok (.pop, 1) := by decide +kernel
theorem dX8_restore_31 : decode cX8_restore 31 = .ok (.iinc 1 1, 3) := by decide +kernel
theorem dX8_restore_34 : decode cX8_restore 34 = .ok (.goto (-22), 3) := by decide +kernel
theorem dX8_restore_37 : decode cX8_restore 37 = .ok (.iconst 1, 1) := by decide +kernel
theorem dX8_restore_38 : decode cX8_restore 38 = .ok (.ireturn, 1) := by decide +kernel
theorem dX8_isSheet_0 : decode cX8_isSheet 0 = .ok (.iload_n 0, 1) := by decide +kernel
theorem dX8_isSheet_1 : decode cX8_isSheet 1 = .ok (.i2l, 1) := by decide +kernel
theorem dX8_isSheet_2 : decode cX8_isSheet 2 = .ok (.lconst 0, 1) := by decide +kernel
theorem dX8_isSheet_3 : decode cX8_isSheet 3 = .ok (.ldc2_w 78, 3) := by decide +kernel
theorem dX8_isSheet_6 : decode cX8_isSheet 6 = .ok (.invokestatic 72, 3) := by decide +kernel
theorem dX8_isSheet_9 : decode cX8_isSheet 9 = .ok (.ifCond .eq 19, 3) := by decide +kernel
theorem dX8_isSheet_12 : decode cX8_isSheet 12 = .ok (.iload_n 1, 1) := by decide +kernel
theorem dX8_isSheet_13 : decode cX8_isSheet 13 = .ok (.i2l, 1) := by decide +kernel
theorem dX8_isSheet_14 : decode cX8_isSheet 14 = .ok (.lconst 0, 1) := by decide +kernel
theorem dX8_isSheet_15 : decode cX8_isSheet 15 = .ok (.ldc2_w 127, 3) := by decide +kernel
theorem dX8_isSheet_18 : decode cX8_isSheet 18 = .ok (.invokestatic 72, 3) := by decide +kernel
theorem dX8_isSheet_21 : decode cX8_isSheet 21 = .ok (.ifCond .eq 7, 3) := by decide +kernel
theorem dX8_isSheet_24 : decode cX8_isSheet 24 = .ok (.iconst 1, 1) := by decide +kernel
theorem dX8_isSheet_25 : decode cX8_isSheet 25 = .ok (.goto 4, 3) := by decide +kernel
theorem dX8_isSheet_28 : decode cX8_isSheet 28 = .ok (.iconst 0, 1) := by decide +kernel
theorem dX8_isSheet_29 : decode cX8_isSheet 29 = .ok (.ireturn, 1) := by decide +kernel
theorem dX8_asLane_0 : decode cX8_asLane 0 = .ok (.iload_n 0, 1) := by decide +kernel
theorem dX8_asLane_1 : decode cX8_asLane 1 = .ok (.ifCond .ne 13, 3) := by decide +kernel
theorem dX8_asLane_4 : decode cX8_asLane 4 = .ok (.iload_n 1, 1) := by decide +kernel
theorem dX8_asLane_5 : decode cX8_asLane 5 = .ok (.bipush 24, 2) := by decide +kernel
theorem dX8_asLane_7 : decode cX8_asLane 7 = .ok (.ishl, 1) := by decide +kernel
theorem dX8_asLane_8 : decode cX8_asLane 8 = .ok (.bipush 24, 2) := by decide +kernel
theorem dX8_asLane_10 : decode cX8_asLane 10 = .ok (.ishr, 1) := by decide +kernel
theorem dX8_asLane_11 : decode cX8_asLane 11 = .ok (.goto 19, 3) := by decide +kernel
theorem dX8_asLane_14 : decode cX8_asLane 14 = .ok (.iload_n 0, 1) := by decide +kernel
theorem dX8_asLane_15 : decode cX8_asLane 15 = .ok (.iconst 1, 1) := by decide +kernel
theorem dX8_asLane_16 : decode cX8_asLane 16 = .ok (.if_icmp .ne 13, 3) := by decide +kernel
theorem dX8_asLane_19 : decode cX8_asLane 19 = .ok (.iload_n 1, 1) := by decide +kernel
theorem dX8_asLane_20 : decode cX8_asLane 20 = .ok (.bipush 16, 2) := by decide +kernel
theorem dX8_asLane_22 : decode cX8_asLane 22 = .ok (.ishl, 1) := by decide +kernel
theorem dX8_asLane_23 : decode cX8_asLane 23 = .ok (.bipush 16, 2) := by decide +kernel
theorem dX8_asLane_25 : decode cX8_asLane 25 = .ok (.ishr, 1) := by decide +kernel
theorem dX8_asLane_26 : decode cX8_asLane 26 = .ok (.goto 4, 3) := by decide +kernel
theorem dX8_asLane_29 : decode cX8_asLane 29 = .ok (.iload_n 1, 1) := by decide +kernel
theorem dX8_asLane_30 : decode cX8_asLane 30 = .ok (.ireturn, 1) := by decide +kernel
theorem dX8_sheet_0 : decode cX8_sheet 0 = .ok (.iload_n 1, 1) := by decide +kernel
theorem dX8_sheet_1 : decode cX8_sheet 1 = .ok (.iload_n 2, 1) := by decide +kernel
theorem dX8_sheet_2 : decode cX8_sheet 2 = .ok (.invokestatic 280, 3) := by decide +kernel
theorem dX8_sheet_5 : decode cX8_sheet 5 = .ok (.ifCond .eq 9, 3) := by decide +kernel
theorem dX8_sheet_8 : decode cX8_sheet 8 = .ok (.iload_n 3, 1) := by decide +kernel
theorem dX8_sheet_9 : decode cX8_sheet 9 = .ok (.bipush 24, 2) := by decide +kernel
theorem dX8_sheet_11 : decode cX8_sheet 11 = .ok (.if_icmp .le 5, 3) := by decide +kernel
theorem dX8_sheet_14 : decode cX8_sheet 14 = .ok (.iconst (-1), 1) := by decide +kernel
theorem dX8_sheet_15 : decode cX8_sheet 15 = .ok (.ireturn, 1) := by decide +kernel
theorem dX8_sheet_16 : decode cX8_sheet 16 = .ok (.iload_n 3, 1) := by decide +kernel
theorem dX8_sheet_17 : decode cX8_sheet 17 = .ok (.ifCond .ge 6, 3) := by decide +kernel
theorem dX8_sheet_20 : decode cX8_sheet 20 = .ok (.bipush (-14), 2) := by decide +kernel
theorem dX8_sheet_22 : decode cX8_sheet 22 = .ok (.ireturn, 1) := by decide +kernel
theorem dX8_sheet_23 : decode cX8_sheet 23 = .ok (.aload_n 0, 1) := by decide +kernel
theorem dX8_sheet_24 : decode cX8_sheet 24 = .ok (.getfield 57, 3) := by decide +kernel
theorem dX8_sheet_27 : decode cX8_sheet 27 = .ok (.iload_n 1, 1) := by decide +kernel
theorem dX8_sheet_28 : decode cX8_sheet 28 = .ok (.iload_n 2, 1) := by decide +kernel
theorem dX8_sheet_29 : decode cX8_sheet 29 = .ok (.iastore, 1) := by decide +kernel
theorem dX8_sheet_30 : decode cX8_sheet 30 = .ok (.aload_n 0, 1) := by decide +kernel
theorem dX8_sheet_31 : decode cX8_sheet 31 = .ok (.getfield 60, 3) := by decide +kernel
theorem dX8_sheet_34 : decode cX8_sheet 34 = .ok (.iload_n 1, 1) := by decide +kernel
theorem dX8_sheet_35 : decode cX8_sheet 35 = .ok (.iload_n 3, 1) := by decide +kernel
theorem dX8_sheet_36 : decode cX8_sheet 36 = .ok (.iastore, 1) := by decide +kernel
theorem dX8_sheet_37 : decode cX8_sheet 37 = .ok (.iconst 0, 1) := by decide +kernel
theorem dX8_sheet_38 : decode cX8_sheet 38 = .ok (.istore 4, 2) := by decide +kernel
theorem dX8_sheet_40 : decode cX8_sheet 40 = .ok (.iload 4, 2) := by decide +kernel
theorem dX8_sheet_42 : decode cX8_sheet 42 = .ok (.bipush 24, 2) := by decide +kernel
theorem dX8_sheet_44 : decode cX8_sheet 44 = .ok (.if_icmp .ge 22, 3) := by decide +kernel
theorem dX8_sheet_47 : decode cX8_sheet 47 = .ok (.aload_n 0, 1) := by decide +kernel
theorem dX8_sheet_48 : decode cX8_sheet 48 = .ok (.getfield 63, 3) := by decide +kernel
theorem dX8_sheet_51 : decode cX8_sheet 51 = .ok (.bipush 24, 2) := by decide +kernel
theorem dX8_sheet_53 : decode cX8_sheet 53 = .ok (.iload_n 1, 1) := by decide +kernel
theorem dX8_sheet_54 : decode cX8_sheet 54 = .ok (.imul, 1) := by decide +kernel
theorem dX8_sheet_55 : decode cX8_sheet 55 = .ok (.iload 4, 2) := by decide +kernel
theorem dX8_sheet_57 : decode cX8_sheet 57 = .ok (.iadd, 1) := by decide +kernel
theorem dX8_sheet_58 : decode cX8_sheet 58 = .ok (.iconst 0, 1) := by decide +kernel
theorem dX8_sheet_59 : decode cX8_sheet 59 = .ok (.iastore, 1) := by decide +kernel
theorem dX8_sheet_60 : decode cX8_sheet 60 = .ok (.iinc 4 1, 3) := by decide +kernel
theorem dX8_sheet_63 : decode cX8_sheet 63 = .ok (.goto (-23), 3) := by decide +kernel
theorem dX8_sheet_66 : decode cX8_sheet 66 = .ok (.iload_n 3, 1) := by decide +kernel
theorem dX8_sheet_67 : decode cX8_sheet 67 = .ok (.ireturn, 1) := by decide +kernel
theorem dX8_drop_0 : decode cX8_drop 0 = .ok (.iload_n 1, 1) := by decide +kernel
theorem dX8_drop_1 : decode cX8_drop 1 = .ok (.i2l, 1) := by decide +kernel
theorem dX8_drop_2 : decode cX8_drop 2 = .ok (.lconst 0, 1) := by decide +kernel
theorem dX8_drop_3 : decode cX8_drop 3 = .ok (.ldc2_w 78, 3) := by decide +kernel
theorem dX8_drop_6 : decode cX8_drop 6 = .ok (.invokestatic 72, 3) := by decide +kernel
theorem dX8_drop_9 : decode cX8_drop 9 = .ok (.ifCond .ne 5, 3) := by decide +kernel
theorem dX8_drop_12 : decode cX8_drop 12 = .ok (.iconst (-1), 1) := by decide +kernel
theorem dX8_drop_13 : decode cX8_drop 13 = .ok (.ireturn, 1) := by decide +kernel
theorem dX8_drop_14 : decode cX8_drop 14 = .ok (.aload_n 0, 1) := by decide +kernel
theorem dX8_drop_15 : decode cX8_drop 15 = .ok (.getfield 57, 3) := by decide +kernel
theorem dX8_drop_18 : decode cX8_drop 18 = .ok (.iload_n 1, 1) := by decide +kernel
theorem dX8_drop_19 : decode cX8_drop 19 = .ok (.iaload, 1) := by decide +kernel
theorem dX8_drop_20 : decode cX8_drop 20 = .ok (.ifCond .ge 6, 3) := by decide +kernel
theorem dX8_drop_23 : decode cX8_drop 23 = .ok (.bipush (-11), 2) := by decide +kernel
theorem dX8_drop_25 : decode cX8_drop 25 = .ok (.ireturn, 1) := by decide +kernel
theorem dX8_drop_26 : decode cX8_drop 26 = .ok (.aload_n 0, 1) := by decide +kernel
theorem dX8_drop_27 : decode cX8_drop 27 = .ok (.getfield 57, 3) := by decide +kernel
theorem dX8_drop_30 : decode cX8_drop 30 = .ok (.iload_n 1, 1) := by decide +kernel
theorem dX8_drop_31 : decode cX8_drop 31 = .ok (.iconst (-1), 1) := by decide +kernel
theorem dX8_drop_32 : decode cX8_drop 32 = .ok (.iastore, 1) := by decide +kernel
theorem dX8_drop_33 : decode cX8_drop 33 = .ok (.aload_n 0, 1) := by decide +kernel
theorem dX8_drop_34 : decode cX8_drop 34 = .ok (.getfield 60, 3) := by decide +kernel
theorem dX8_drop_37 : decode cX8_drop 37 = .ok (.iload_n 1, 1) := by decide +kernel
theorem dX8_drop_38 : decode cX8_drop 38 = .ok (.iaload, 1) := by decide +kernel
theorem dX8_drop_39 : decode cX8_drop 39 = .ok (.ireturn, 1) := by decide +kernel
theorem dX8_lacksRow_0 : decode cX8_lacksRow 0 = .ok (.aload_n 0, 1) := by decide +kernel
theorem dX8_lacksRow_1 : decode cX8_lacksRow 1 = .ok (.getfield 57, 3) := by decide +kernel
theorem dX8_lacksRow_4 : decode cX8_lacksRow 4 = .ok (.iload_n 1, 1) := by decide +kernel
theorem dX8_lacksRow_5 : decode cX8_lacksRow 5 = .ok (.iaload, 1) := by decide +kernel
theorem dX8_lacksRow_6 : decode cX8_lacksRow 6 = .ok (.iload_n 2, 1) := by decide +kernel
theorem dX8_lacksRow_7 : decode cX8_lacksRow 7 = .ok (.if_icmp .eq 20, 3) := by decide +kernel
theorem dX8_lacksRow_10 : decode cX8_lacksRow 10 = .ok (.aload_n 0, 1) := by decide +kernel
theorem dX8_lacksRow_11 : decode cX8_lacksRow 11 = .ok (.getfield 57, 3) := by decide +kernel
theorem dX8_lacksRow_14 : decode cX8_lacksRow 14 = .ok (.iload_n 1, 1) := by decide +kernel
theorem dX8_lacksRow_15 : decode cX8_lacksRow 15 = .ok (.iaload, 1) := by decide +kernel
theorem dX8_lacksRow_16 : decode cX8_lacksRow 16 = .ok (.ifCond .ge 8, 3) := by decide +kernel
theorem dX8_lacksRow_19 : decode cX8_lacksRow 19 = .ok (.bipush (-11), 2) := by decide +kernel
theorem dX8_lacksRow_21 : decode cX8_lacksRow 21 = .ok (.goto 5, 3) := by decide +kernel
theorem dX8_lacksRow_24 : decode cX8_lacksRow 24 = .ok (.bipush (-12), 2) := by decide +kernel
theorem dX8_lacksRow_26 : decode cX8_lacksRow 26 = .ok (.ireturn, 1) := by decide +kernel
theorem dX8_lacksRow_27 : decode cX8_lacksRow 27 = .ok (.iload_n 3, 1) := by decide +kernel
theorem dX8_lacksRow_28 : decode cX8_lacksRow 28 = .ok (.i2l, 1) := by decide +kernel
theorem dX8_lacksRow_29 : decode cX8_lacksRow 29 = .ok (.lconst 0, 1) := by decide +kernel
theorem dX8_lacksRow_30 : decode cX8_lacksRow 30 = .ok (.aload_n 0, 1) := by decide +kernel
theorem dX8_lacksRow_31 : decode cX8_lacksRow 31 = .ok (.getfield 60, 3) := by decide +kernel
theorem dX8_lacksRow_34 : decode cX8_lacksRow 34 = .ok (.iload_n 1, 1) := by decide +kernel
theorem dX8_lacksRow_35 : decode cX8_lacksRow 35 = .ok (.iaload, 1) := by decide +kernel
theorem dX8_lacksRow_36 : decode cX8_lacksRow 36 = .ok (.iload 4, 2) := by decide +kernel
theorem dX8_lacksRow_38 : decode cX8_lacksRow 38 = .ok (.isub, 1) := by decide +kernel
theorem dX8_lacksRow_39 : decode cX8_lacksRow 39 = .ok (.i2l, 1) := by decide +kernel
theorem dX8_lacksRow_40 : decode cX8_lacksRow 40 = .ok (.invokestatic 72, 3) := by decide +kernel
theorem dX8_lacksRow_43 : decode cX8_lacksRow 43 = .ok (.ifCond .eq 7, 3) := by decide +kernel
theorem dX8_lacksRow_46 : decode cX8_lacksRow 46 = .ok (.iconst 0, 1) := by decide +kernel
theorem dX8_lacksRow_47 : decode cX8_lacksRow 47 = .ok (.goto 5, 3) := by decide +kernel
theorem dX8_lacksRow_50 : decode cX8_lacksRow 50 = .ok (.bipush (-13), 2) := by decide +kernel
theorem dX8_lacksRow_52 : decode cX8_lacksRow 52 = .ok (.ireturn, 1) := by decide +kernel
theorem dX8_item_0 : decode cX8_item 0 = .ok (.iload_n 1, 1) := by decide +kernel
theorem dX8_item_1 : decode cX8_item 1 = .ok (.iload_n 2, 1) := by decide +kernel
theorem dX8_item_2 : decode cX8_item 2 = .ok (.invokestatic 280, 3) := by decide +kernel
theorem dX8_item_5 : decode cX8_item 5 = .ok (.ifCond .ne 5, 3) := by decide +kernel
theorem dX8_item_8 : decode cX8_item 8 = .ok (.iconst (-1), 1) := by decide +kernel
theorem dX8_item_9 : decode cX8_item 9 = .ok (.ireturn, 1) := by decide +kernel
theorem dX8_item_10 : decode cX8_item 10 = .ok (.aload_n 0, 1) := by decide +kernel
theorem dX8_item_11 : decode cX8_item 11 = .ok (.iload_n 1, 1) := by decide +kernel
theorem dX8_item_12 : decode cX8_item 12 = .ok (.iload_n 2, 1) := by decide +kernel
theorem dX8_item_13 : decode cX8_item 13 = .ok (.iload_n 3, 1) := by decide +kernel
theorem dX8_item_14 : decode cX8_item 14 = .ok (.iconst 1, 1) := by decide +kernel
theorem dX8_item_15 : decode cX8_item 15 = .ok (.invokevirtual 283, 3) := by decide +kernel
theorem dX8_item_18 : decode cX8_item 18 = .ok (.istore 5, 2) := by decide +kernel
theorem dX8_item_20 : decode cX8_item 20 = .ok (.iload 5, 2) := by decide +kernel
theorem dX8_item_22 : decode cX8_item 22 = .ok (.ifCond .ge 6, 3) := by decide +kernel
theorem dX8_item_25 : decode cX8_item 25 = .ok (.iload 5, 2) := by decide +kernel
theorem dX8_item_27 : decode cX8_item 27 = .ok (.ireturn, 1) := by decide +kernel
theorem dX8_item_28 : decode cX8_item 28 = .ok (.aload_n 0, 1) := by decide +kernel
theorem dX8_item_29 : decode cX8_item 29 = .ok (.getfield 63, 3) := by decide +kernel
theorem dX8_item_32 : decode cX8_item 32 = .ok (.bipush 24, 2) := by decide +kernel
theorem dX8_item_34 : decode cX8_item 34 = .ok (.iload_n 1, 1) := by decide +kernel
theorem dX8_item_35 : decode cX8_item 35 = .ok (.imul, 1) := by decide +kernel
theorem dX8_item_36 : decode cX8_item 36 = .ok (.iload_n 3, 1) := by decide +kernel
theorem dX8_item_37 : decode cX8_item 37 = .ok (.iadd, 1) := by decide +kernel
theorem dX8_item_38 : decode cX8_item 38 = .ok (.iload_n 2, 1) := by decide +kernel
theorem dX8_item_39 : decode cX8_item 39 = .ok (.iload 4, 2) := by decide +kernel
theorem dX8_item_41 : decode cX8_item 41 = .ok (.invokestatic 287, 3) := by decide +kernel
theorem dX8_item_44 : decode cX8_item 44 = .ok (.iastore, 1) := by decide +kernel
theorem dX8_item_45 : decode cX8_item 45 = .ok (.iconst 1, 1) := by decide +kernel
theorem dX8_item_46 : decode cX8_item 46 = .ok (.ireturn, 1) := by decide +kernel
theorem dX8_pour_0 : decode cX8_pour 0 = .ok (.iload_n 1, 1) := by decide +kernel
theorem dX8_pour_1 : decode cX8_pour 1 = .ok (.iload_n 2, 1) := by decide +kernel
theorem dX8_pour_2 : decode cX8_pour 2 = .ok (.invokestatic 280, 3) := by decide +kernel
theorem dX8_pour_5 : decode cX8_pour 5 = .ok (.ifCond .ne 5, 3) := by decide +kernel
theorem dX8_pour_8 : decode cX8_pour 8 = .ok (.iconst (-1), 1) := by decide +kernel
theorem dX8_pour_9 : decode cX8_pour 9 = .ok (.ireturn, 1) := by decide +kernel
theorem dX8_pour_10 : decode cX8_pour 10 = .ok (.aload_n 0, 1) := by decide +kernel
theorem dX8_pour_11 : decode cX8_pour 11 = .ok (.iload_n 1, 1) := by decide +kernel
theorem dX8_pour_12 : decode cX8_pour 12 = .ok (.iload_n 2, 1) := by decide +kernel
theorem dX8_pour_13 : decode cX8_pour 13 = .ok (.iload_n 3, 1) := by decide +kernel
theorem dX8_pour_14 : decode cX8_pour 14 = .ok (.bipush 12, 2) := by decide +kernel
theorem dX8_pour_16 : decode cX8_pour 16 = .ok (.invokevirtual 283, 3) := by decide +kernel
theorem dX8_pour_19 : decode cX8_pour 19 = .ok (.istore 4, 2) := by decide +kernel
theorem dX8_pour_21 : decode cX8_pour 21 = .ok (.iload 4, 2) := by decide +kernel
theorem dX8_pour_23 : decode cX8_pour 23 = .ok (.ifCond .ge 6, 3) := by decide +kernel
theorem dX8_pour_26 : decode cX8_pour 26 = .ok (.iload 4, 2) := by decide +kernel
theorem dX8_pour_28 : decode cX8_pour 28 = .ok (.ireturn, 1) := by decide +kernel
theorem dX8_pour_29 : decode cX8_pour 29 = .ok (.bipush 24, 2) := by decide +kernel
theorem dX8_pour_31 : decode cX8_pour 31 = .ok (.iload_n 1, 1) := by decide +kernel
theorem dX8_pour_32 : decode cX8_pour 32 = .ok (.imul, 1) := by decide +kernel
theorem dX8_pour_33 : decode cX8_pour 33 = .ok (.iload_n 3, 1) := by decide +kernel
theorem dX8_pour_34 : decode cX8_pour 34 = .ok (.iadd, 1) := by decide +kernel
theorem dX8_pour_35 : decode cX8_pour 35 = .ok (.istore 5, 2) := by decide +kernel
theorem dX8_pour_37 : decode cX8_pour 37 = .ok (.aload_n 0, 1) := by decide +kernel
theorem dX8_pour_38 : decode cX8_pour 38 = .ok (.invokevirtual 141, 3) := by decide +kernel
theorem dX8_pour_41 : decode cX8_pour 41 = .ok (.iconst 0, 1) := by decide +kernel
theorem dX8_pour_42 : decode cX8_pour 42 = .ok (.istore 6, 2) := by decide +kernel
theorem dX8_pour_44 : decode cX8_pour 44 = .ok (.iload 6, 2) := by decide +kernel
theorem dX8_pour_46 : decode cX8_pour 46 = .ok (.bipush 12, 2) := by decide +kernel
theorem dX8_pour_48 : decode cX8_pour 48 = .ok (.if_icmp .ge 61, 3) := by decide +kernel
theorem dX8_pour_51 : decode cX8_pour 51 = .ok (.aload_n 0, 1) := by decide +kernel
theorem dX8_pour_52 : decode cX8_pour 52 = .ok (.getfield 63, 3) := by decide +kernel
theorem dX8_pour_55 : decode cX8_pour 55 = .ok (.iload 5, 2) := by decide +kernel
theorem dX8_pour_57 : decode cX8_pour 57 = .ok (.iload 6, 2) := by decide +kernel
theorem dX8_pour_59 : decode cX8_pour 59 = .ok (.iadd, 1) := by decide +kernel
theorem dX8_pour_60 : decode cX8_pour 60 = .ok (.iaload, 1) := by decide +kernel
theorem dX8_pour_61 : decode cX8_pour 61 = .ok (.i2l, 1) := by decide +kernel
theorem dX8_pour_62 : decode cX8_pour 62 = .ok (.lconst 0, 1) := by decide +kernel
theorem dX8_pour_63 : decode cX8_pour 63 = .ok (.ldc2_w 80, 3) := by decide +kernel
theorem dX8_pour_66 : decode cX8_pour 66 = .ok (.invokestatic 72, 3) := by decide +kernel
theorem dX8_pour_69 : decode cX8_pour 69 = .ok (.ifCond .ne 6, 3) := by decide +kernel
theorem dX8_pour_72 : decode cX8_pour 72 = .ok (.bipush (-2), 2) := by decide +kernel
theorem dX8_pour_74 : decode cX8_pour 74 = .ok (.ireturn, 1) := by decide +kernel
theorem dX8_pour_75 : decode cX8_pour 75 = .ok (.aload_n 0, 1) := by decide +kernel
theorem dX8_pour_76 : decode cX8_pour 76 = .ok (.getfield 29, 3) := by decide +kernel
theorem dX8_pour_79 : decode cX8_pour 79 = .ok (.iload 6, 2) := by decide +kernel
theorem dX8_pour_81 : decode cX8_pour 81 = .ok (.dup2, 1) := by decide +kernel
theorem dX8_pour_82 : decode cX8_pour 82 = .ok (.iaload, 1) := by decide +kernel
theorem dX8_pour_83 : decode cX8_pour 83 = .ok (.aload_n 0, 1) := by decide +kernel
theorem dX8_pour_84 : decode cX8_pour 84 = .ok (.getfield 63, 3) := by decide +kernel
theorem dX8_pour_87 : decode cX8_pour 87 = .ok (.iload 5, 2) := by decide +kernel
theorem dX8_pour_89 : decode cX8_pour 89 = .ok (.iload 6, 2) := by decide +kernel
theorem dX8_pour_91 : decode cX8_pour 91 = .ok (.iadd, 1) := by decide +kernel
theorem dX8_pour_92 : decode cX8_pour 92 = .ok (.iaload, 1) := by decide +kernel
theorem dX8_pour_93 : decode cX8_pour 93 = .ok (.aload_n 0, 1) := by decide +kernel
theorem dX8_pour_94 : decode cX8_pour 94 = .ok (.getfield 22, 3) := by decide +kernel
theorem dX8_pour_97 : decode cX8_pour 97 = .ok (.iload 6, 2) := by decide +kernel
theorem dX8_pour_99 : decode cX8_pour 99 = .ok (.iaload, 1) := by decide +kernel
theorem dX8_pour_100 : decode cX8_pour 100 = .ok (.isub, 1) := by decide +kernel
theorem dX8_pour_101 : decode cX8_pour 101 = .ok (.iadd, 1) := by decide +kernel
theorem dX8_pour_102 : decode cX8_pour 102 = .ok (.iastore, 1) := by decide +kernel
theorem dX8_pour_103 : decode cX8_pour 103 = .ok (.iinc 6 1, 3) := by decide +kernel
theorem dX8_pour_106 : decode cX8_pour 106 = .ok (.goto (-62), 3) := by decide +kernel
theorem dX8_pour_109 : decode cX8_pour 109 = .ok (.aload_n 0, 1) := by decide +kernel
theorem dX8_pour_110 : decode cX8_pour 110 = .ok (.invokevirtual 144, 3) := by decide +kernel
theorem dX8_pour_113 : decode cX8_pour 113 = .ok (.ifCond .ne 6, 3) := by decide +kernel
theorem dX8_pour_116 : decode cX8_pour 116 = .ok (.bipush (-2), 2) := by decide +kernel
theorem dX8_pour_118 : decode cX8_pour 118 = .ok (.ireturn, 1) := by decide +kernel
theorem dX8_pour_119 : decode cX8_pour 119 = .ok (.iconst 0, 1) := by decide +kernel
theorem dX8_pour_120 : decode cX8_pour 120 = .ok (.istore 6, 2) := by decide +kernel
theorem dX8_pour_122 : decode cX8_pour 122 = .ok (.iconst 0, 1) := by decide +kernel
theorem dX8_pour_123 : decode cX8_pour 123 = .ok (.istore 7, 2) := by decide +kernel
theorem dX8_pour_125 : decode cX8_pour 125 = .ok (.iload 7, 2) := by decide +kernel
theorem dX8_pour_127 : decode cX8_pour 127 = .ok (.bipush 12, 2) := by decide +kernel
theorem dX8_pour_129 : decode cX8_pour 129 = .ok (.if_icmp .ge 38, 3) := by decide +kernel
theorem dX8_pour_132 : decode cX8_pour 132 = .ok (.aload_n 0, 1) := by decide +kernel
theorem dX8_pour_133 : decode cX8_pour 133 = .ok (.getfield 22, 3) := by decide +kernel
theorem dX8_pour_136 : decode cX8_pour 136 = .ok (.iload 7, 2) := by decide +kernel
theorem dX8_pour_138 : decode cX8_pour 138 = .ok (.aload_n 0, 1) := by decide +kernel
theorem dX8_pour_139 : decode cX8_pour 139 = .ok (.getfield 63, 3) := by decide +kernel
theorem dX8_pour_142 : decode cX8_pour 142 = .ok (.iload 5, 2) := by decide +kernel
theorem dX8_pour_144 : decode cX8_pour 144 = .ok (.iload 7, 2) := by decide +kernel
theorem dX8_pour_146 : decode cX8_pour 146 = .ok (.iadd, 1) := by decide +kernel
theorem dX8_pour_147 : decode cX8_pour 147 = .ok (.iaload, 1) := by decide +kernel
theorem dX8_pour_148 : decode cX8_pour 148 = .ok (.iastore, 1) := by decide +kernel
theorem dX8_pour_149 : decode cX8_pour 149 = .ok (.iload 6, 2) := by decide +kernel
theorem dX8_pour_151 : decode cX8_pour 151 = .ok (.aload_n 0, 1) := by decide +kernel
theorem dX8_pour_152 : decode cX8_pour 152 = .ok (.getfield 22, 3) := by decide +kernel
theorem dX8_pour_155 : decode cX8_pour 155 = .ok (.iload 7, 2) := by decide +kernel
theorem dX8_pour_157 : decode cX8_pour 157 = .ok (.iaload, 1) := by decide +kernel
theorem dX8_pour_158 : decode cX8_pour 158 = .ok (.iadd, 1) := by decide +kernel
theorem dX8_pour_159 : decode cX8_pour 159 = .ok (.istore 6, 2) := by decide +kernel
theorem dX8_pour_161 : decode cX8_pour 161 = .ok (.iinc 7 1, 3) := by decide +kernel
theorem dX8_pour_164 : decode cX8_pour 164 = .ok (.goto (-39), 3) := by decide +kernel
theorem dX8_pour_167 : decode cX8_pour 167 = .ok (.iload 6, 2) := by decide +kernel
theorem dX8_pour_169 : decode cX8_pour 169 = .ok (.ireturn, 1) := by decide +kernel
theorem dX8_film_0 : decode cX8_film 0 = .ok (.iload_n 1, 1) := by decide +kernel
theorem dX8_film_1 : decode cX8_film 1 = .ok (.iload_n 2, 1) := by decide +kernel
theorem dX8_film_2 : decode cX8_film 2 = .ok (.invokestatic 280, 3) := by decide +kernel
theorem dX8_film_5 : decode cX8_film 5 = .ok (.ifCond .ne 5, 3) := by decide +kernel
theorem dX8_film_8 : decode cX8_film 8 = .ok (.iconst (-1), 1) := by decide +kernel
theorem dX8_film_9 : decode cX8_film 9 = .ok (.ireturn, 1) := by decide +kernel
theorem dX8_film_10 : decode cX8_film 10 = .ok (.aload_n 0, 1) := by decide +kernel
theorem dX8_film_11 : decode cX8_film 11 = .ok (.iload_n 1, 1) := by decide +kernel
theorem dX8_film_12 : decode cX8_film 12 = .ok (.iload_n 2, 1) := by decide +kernel
theorem dX8_film_13 : decode cX8_film 13 = .ok (.iload_n 3, 1) := by decide +kernel
theorem dX8_film_14 : decode cX8_film 14 = .ok (.bipush 12, 2) := by decide +kernel
theorem dX8_film_16 : decode cX8_film 16 = .ok (.invokevirtual 283, 3) := by decide +kernel
theorem dX8_film_19 : decode cX8_film 19 = .ok (.istore 4, 2) := by decide +kernel
theorem dX8_film_21 : decode cX8_film 21 = .ok (.iload 4, 2) := by decide +kernel
theorem dX8_film_23 : decode cX8_film 23 = .ok (.ifCond .ge 6, 3) := by decide +kernel
theorem dX8_film_26 : decode cX8_film 26 = .ok (.iload 4, 2) := by decide +kernel
theorem dX8_film_28 : decode cX8_film 28 = .ok (.ireturn, 1) := by decide +kernel
theorem dX8_film_29 : decode cX8_film 29 = .ok (.aload_n 0, 1) := by decide +kernel
theorem dX8_film_30 : decode cX8_film 30 = .ok (.invokevirtual 141, 3) := by decide +kernel
theorem dX8_film_33 : decode cX8_film 33 = .ok (.iconst 0, 1) := by decide +kernel
theorem dX8_film_34 : decode cX8_film 34 = .ok (.istore 5, 2) := by decide +kernel
theorem dX8_film_36 : decode cX8_film 36 = .ok (.iload 5, 2) := by decide +kernel
theorem dX8_film_38 : decode cX8_film 38 = .ok (.bipush 12, 2) := by decide +kernel
theorem dX8_film_40 : decode cX8_film 40 = .ok (.if_icmp .ge 34, 3) := by decide +kernel
theorem dX8_film_43 : decode cX8_film 43 = .ok (.aload_n 0, 1) := by decide +kernel
theorem dX8_film_44 : decode cX8_film 44 = .ok (.getfield 63, 3) := by decide +kernel
theorem dX8_film_47 : decode cX8_film 47 = .ok (.bipush 24, 2) := by decide +kernel
theorem dX8_film_49 : decode cX8_film 49 = .ok (.iload_n 1, 1) := by decide +kernel
theorem dX8_film_50 : decode cX8_film 50 = .ok (.imul, 1) := by decide +kernel
theorem dX8_film_51 : decode cX8_film 51 = .ok (.iload_n 3, 1) := by decide +kernel
theorem dX8_film_52 : decode cX8_film 52 = .ok (.iadd, 1) := by decide +kernel
theorem dX8_film_53 : decode cX8_film 53 = .ok (.iload 5, 2) := by decide +kernel
theorem dX8_film_55 : decode cX8_film 55 = .ok (.iadd, 1) := by decide +kernel
theorem dX8_film_56 : decode cX8_film 56 = .ok (.iload_n 2, 1) := by decide +kernel
theorem dX8_film_57 : decode cX8_film 57 = .ok (.aload_n 0, 1) := by decide +kernel
theorem dX8_film_58 : decode cX8_film 58 = .ok (.getfield 29, 3) := by decide +kernel
theorem dX8_film_61 : decode cX8_film 61 = .ok (.iload 5, 2) := by decide +kernel
theorem dX8_film_63 : decode cX8_film 63 = .ok (.iaload, 1) := by decide +kernel
theorem dX8_film_64 : decode cX8_film 64 = .ok (.invokestatic 287, 3) := by decide +kernel
theorem dX8_film_67 : decode cX8_film 67 = .ok (.iastore, 1) := by decide +kernel
theorem dX8_film_68 : decode cX8_film 68 = .ok (.iinc 5 1, 3) := by decide +kernel
theorem dX8_film_71 : decode cX8_film 71 = .ok (.goto (-35), 3) := by decide +kernel
theorem dX8_film_74 : decode cX8_film 74 = .ok (.bipush 12, 2) := by decide +kernel
theorem dX8_film_76 : decode cX8_film 76 = .ok (.ireturn, 1) := by decide +kernel
theorem dX8_copy_0 : decode cX8_copy 0 = .ok (.iload_n 1, 1) := by decide +kernel
theorem dX8_copy_1 : decode cX8_copy 1 = .ok (.i2l, 1) := by decide +kernel
theorem dX8_copy_2 : decode cX8_copy 2 = .ok (.lconst 0, 1) := by decide +kernel
theorem dX8_copy_3 : decode cX8_copy 3 = .ok (.ldc2_w 78, 3) := by decide +kernel
theorem dX8_copy_6 : decode cX8_copy 6 = .ok (.invokestatic 72, 3) := by decide +kernel
theorem dX8_copy_9 : decode cX8_copy 9 = .ok (.ifCond .eq 15, 3) := by decide +kernel
theorem dX8_copy_12 : decode cX8_copy 12 = .ok (.iload_n 3, 1) := by decide +kernel
theorem dX8_copy_13 : decode cX8_copy 13 = .ok (.i2l, 1) := by decide +kernel
theorem dX8_copy_14 : decode cX8_copy 14 = .ok (.lconst 0, 1) := by decide +kernel
theorem dX8_copy_15 : decode cX8_copy 15 = .ok (.ldc2_w 78, 3) := by decide +kernel
theorem dX8_copy_18 : decode cX8_copy 18 = .ok (.invokestatic 72, 3) := by decide +kernel
theorem dX8_copy_21 : decode cX8_copy 21 = .ok (.ifCond .ne 5, 3) := by decide +kernel
theorem dX8_copy_24 : decode cX8_copy 24 = .ok (.iconst (-1), 1) := by decide +kernel
theorem dX8_copy_25 : decode cX8_copy 25 = .ok (.ireturn, 1) := by decide +kernel
theorem dX8_copy_26 : decode cX8_copy 26 = .ok (.aload_n 0, 1) := by decide +kernel
theorem dX8_copy_27 : decode cX8_copy 27 = .ok (.getfield 57, 3) := by decide +kernel
theorem dX8_copy_30 : decode cX8_copy 30 = .ok (.iload_n 1, 1) := by decide +kernel
theorem dX8_copy_31 : decode cX8_copy 31 = .ok (.iaload, 1) := by decide +kernel
theorem dX8_copy_32 : decode cX8_copy 32 = .ok (.ifCond .lt 12, 3) := by decide +kernel
theorem dX8_copy_35 : decode cX8_copy 35 = .ok (.aload_n 0, 1) := by decide +kernel
theorem dX8_copy_36 : decode cX8_copy 36 = .ok (.getfield 57, 3) := by decide +kernel
theorem dX8_copy_39 : decode cX8_copy 39 = .ok (.iload_n 3, 1) := by decide +kernel
theorem dX8_copy_40 : decode cX8_copy 40 = .ok (.iaload, 1) := by decide +kernel
theorem dX8_copy_41 : decode cX8_copy 41 = .ok (.ifCond .ge 6, 3) := by decide +kernel
theorem dX8_copy_44 : decode cX8_copy 44 = .ok (.bipush (-11), 2) := by decide +kernel
theorem dX8_copy_46 : decode cX8_copy 46 = .ok (.ireturn, 1) := by decide +kernel
theorem dX8_copy_47 : decode cX8_copy 47 = .ok (.aload_n 0, 1) := by decide +kernel
theorem dX8_copy_48 : decode cX8_copy 48 = .ok (.getfield 57, 3) := by decide +kernel
theorem dX8_copy_51 : decode cX8_copy 51 = .ok (.iload_n 1, 1) := by decide +kernel
theorem dX8_copy_52 : decode cX8_copy 52 = .ok (.iaload, 1) := by decide +kernel
theorem dX8_copy_53 : decode cX8_copy 53 = .ok (.aload_n 0, 1) := by decide +kernel
theorem dX8_copy_54 : decode cX8_copy 54 = .ok (.getfield 57, 3) := by decide +kernel
theorem dX8_copy_57 : decode cX8_copy 57 = .ok (.iload_n 3, 1) := by decide +kernel
theorem dX8_copy_58 : decode cX8_copy 58 = .ok (.iaload, 1) := by decide +kernel
theorem dX8_copy_59 : decode cX8_copy 59 = .ok (.if_icmp .eq 6, 3) := by decide +kernel
theorem dX8_copy_62 : decode cX8_copy 62 = .ok (.bipush (-12), 2) := by decide +kernel
theorem dX8_copy_64 : decode cX8_copy 64 = .ok (.ireturn, 1) := by decide +kernel
theorem dX8_copy_65 : decode cX8_copy 65 = .ok (.iload 5, 2) := by decide +kernel
theorem dX8_copy_67 : decode cX8_copy 67 = .ok (.ifCond .lt 44, 3) := by decide +kernel
theorem dX8_copy_70 : decode cX8_copy 70 = .ok (.iload_n 2, 1) := by decide +kernel
theorem dX8_copy_71 : decode cX8_copy 71 = .ok (.i2l, 1) := by decide +kernel
theorem dX8_copy_72 : decode cX8_copy 72 = .ok (.lconst 0, 1) := by decide +kernel
theorem dX8_copy_73 : decode cX8_copy 73 = .ok (.aload_n 0, 1) := by decide +kernel
theorem dX8_copy_74 : decode cX8_copy 74 = .ok (.getfield 60, 3) := by decide +kernel
theorem dX8_copy_77 : decode cX8_copy 77 = .ok (.iload_n 1, 1) := by decide +kernel
theorem dX8_copy_78 : decode cX8_copy 78 = .ok (.iaload, 1) := by decide +kernel
theorem dX8_copy_79 : decode cX8_copy 79 = .ok (.i2l, 1) := by decide +kernel
theorem dX8_copy_80 : decode cX8_copy 80 = .ok (.iload 5, 2) := by decide +kernel
theorem dX8_copy_82 : decode cX8_copy 82 = .ok (.i2l, 1) := by decide +kernel
theorem dX8_copy_83 : decode cX8_copy 83 = .ok (.lsub, 1) := by decide +kernel
theorem dX8_copy_84 : decode cX8_copy 84 = .ok (.invokestatic 72, 3) := by decide +kernel
theorem dX8_copy_87 : decode cX8_copy 87 = .ok (.ifCond .eq 24, 3) := by decide +kernel
theorem dX8_copy_90 : decode cX8_copy 90 = .ok (.iload 4, 2) := by decide +kernel
theorem dX8_copy_92 : decode cX8_copy 92 = .ok (.i2l, 1) := by decide +kernel
theorem dX8_copy_93 : decode cX8_copy 93 = .ok (.lconst 0, 1) := by decide +kernel
theorem dX8_copy_94 : decode cX8_copy 94 = .ok (.aload_n 0, 1) := by decide +kernel
theorem dX8_copy_95 : decode cX8_copy 95 = .ok (.getfield 60, 3) := by decide +kernel
theorem dX8_copy_98 : decode cX8_copy 98 = .ok (.iload_n 3, 1) := by decide +kernel
theorem dX8_copy_99 : decode cX8_copy 99 = .ok (.iaload, 1) := by decide +kernel
theorem dX8_copy_100 : decode cX8_copy 100 = .ok (.i2l, 1) := by decide +kernel
theorem dX8_copy_101 : decode cX8_copy 101 = .ok (.iload 5, 2) := by decide +kernel
theorem dX8_copy_103 : decode cX8_copy 103 = .ok (.i2l, 1) := by decide +kernel
theorem dX8_copy_104 : decode cX8_copy 104 = .ok (.lsub, 1) := by decide +kernel
theorem dX8_copy_105 : decode cX8_copy 105 = .ok (.invokestatic 72, 3) := by decide +kernel
theorem dX8_copy_108 : decode cX8_copy 108 = .ok (.ifCond .ne 6, 3) := by decide +kernel
theorem dX8_copy_111 : decode cX8_copy 111 = .ok (.bipush (-13), 2) := by decide +kernel
theorem dX8_copy_113 : decode cX8_copy 113 = .ok (.ireturn, 1) := by decide +kernel
theorem dX8_copy_114 : decode cX8_copy 114 = .ok (.iconst 0, 1) := by decide +kernel
theorem dX8_copy_115 : decode cX8_copy 115 = .ok (.istore 6, 2) := by decide +kernel
theorem dX8_copy_117 : decode cX8_copy 117 = .ok (.iload 6, 2) := by decide +kernel
theorem dX8_copy_119 : decode cX8_copy 119 = .ok (.iload 5, 2) := by decide +kernel
theorem dX8_copy_121 : decode cX8_copy 121 = .ok (.if_icmp .ge 30, 3) := by decide +kernel
theorem dX8_copy_124 : decode cX8_copy 124 = .ok (.aload_n 0, 1) := by decide +kernel
theorem dX8_copy_125 : decode cX8_copy 125 = .ok (.getfield 66, 3) := by decide +kernel
theorem dX8_copy_128 : decode cX8_copy 128 = .ok (.iload 6, 2) := by decide +kernel
theorem dX8_copy_130 : decode cX8_copy 130 = .ok (.aload_n 0, 1) := by decide +kernel
theorem dX8_copy_131 : decode cX8_copy 131 = .ok (.getfield 63, 3) := by decide +kernel
theorem dX8_copy_134 : decode cX8_copy 134 = .ok (.bipush 24, 2) := by decide +kernel
theorem dX8_copy_136 : decode cX8_copy 136 = .ok (.iload_n 1, 1) := by decide +kernel
theorem dX8_copy_137 : decode cX8_copy 137 = .ok (.imul, 1) := by decide +kernel
theorem dX8_copy_138 : decode cX8_copy 138 = .ok (.iload_n 2, 1) := by decide +kernel
theorem dX8_copy_139 : decode cX8_copy 139 = .ok (.iadd, 1) := by decide +kernel
theorem dX8_copy_140 : decode cX8_copy 140 = .ok (.iload 6, 2) := by decide +kernel
theorem dX8_copy_142 : decode cX8_copy 142 = .ok (.iadd, 1) := by decide +kernel
theorem dX8_copy_143 : decode cX8_copy 143 = .ok (.iaload, 1) := by decide +kernel
theorem dX8_copy_144 : decode cX8_copy 144 = .ok (.iastore, 1) := by decide +kernel
theorem dX8_copy_145 : decode cX8_copy 145 = .ok (.iinc 6 1, 3) := by decide +kernel
theorem dX8_copy_148 : decode cX8_copy 148 = .ok (.goto (-31), 3) := by decide +kernel
theorem dX8_copy_151 : decode cX8_copy 151 = .ok (.iconst 0, 1) := by decide +kernel
theorem dX8_copy_152 : decode cX8_copy 152 = .ok (.istore 6, 2) := by decide +kernel
theorem dX8_copy_154 : decode cX8_copy 154 = .ok (.iload 6, 2) := by decide +kernel
theorem dX8_copy_156 : decode cX8_copy 156 = .ok (.iload 5, 2) := by decide +kernel
theorem dX8_copy_158 : decode cX8_copy 158 = .ok (.if_icmp .ge 31, 3) := by decide +kernel
theorem dX8_copy_161 : decode cX8_copy 161 = .ok (.aload_n 0, 1) := by decide +kernel
theorem dX8_copy_162 : decode cX8_copy 162 = .ok (.getfield 63, 3) := by decide +kernel
theorem dX8_copy_165 : decode cX8_copy 165 = .ok (.bipush 24, 2) := by decide +kernel
theorem dX8_copy_167 : decode cX8_copy 167 = .ok (.iload_n 3, 1) := by decide +kernel
theorem dX8_copy_168 : decode cX8_copy 168 = .ok (.imul, 1) := by decide +kernel
theorem dX8_copy_169 : decode cX8_copy 169 = .ok (.iload 4, 2) := by decide +kernel
theorem dX8_copy_171 : decode cX8_copy 171 = .ok (.iadd, 1) := by decide +kernel
theorem dX8_copy_172 : decode cX8_copy 172 = .ok (.iload 6, 2) := by decide +kernel
theorem dX8_copy_174 : decode cX8_copy 174 = .ok (.iadd, 1) := by decide +kernel
theorem dX8_copy_175 : decode cX8_copy 175 = .ok (.aload_n 0, 1) := by decide +kernel
theorem dX8_copy_176 : decode cX8_copy 176 = .ok (.getfield 66, 3) := by decide +kernel
theorem dX8_copy_179 : decode cX8_copy 179 = .ok (.iload 6, 2) := by decide +kernel
theorem dX8_copy_181 : decode cX8_copy 181 = .ok (.iaload, 1) := by decide +kernel
theorem dX8_copy_182 : decode cX8_copy 182 = .ok (.iastore, 1) := by decide +kernel
theorem dX8_copy_183 : decode cX8_copy 183 = .ok (.iinc 6 1, 3) := by decide +kernel
theorem dX8_copy_186 : decode cX8_copy 186 = .ok (.goto (-32), 3) := by decide +kernel
theorem dX8_copy_189 : decode cX8_copy 189 = .ok (.iload 5, 2) := by decide +kernel
theorem dX8_copy_191 : decode cX8_copy 191 = .ok (.ireturn, 1) := by decide +kernel
