theorem dX0_init_0 : decode cX0_init 0 = .ok (.aload_n 0, 1) := by decide +kernel
theorem dX0_init_1 : decode cX0_init 1 = .ok (.invokespecial 5, 3) := by decide +kernel
theorem dX0_init_4 : decode cX0_init 4 = .ok (.aload_n 0, 1) := by decide +kernel
theorem dX0_init_5 : decode cX0_init 5 = .ok (.new 11, 3) := by decide +kernel
theorem dX0_init_8 : decode cX0_init 8 = .ok (.dup, 1) := by decide +kernel
theorem dX0_init_9 : decode cX0_init 9 = .ok (.invokespecial 13, 3) := by decide +kernel
theorem dX0_init_12 : decode cX0_init 12 = .ok (.putfield 14, 3) := by decide +kernel
theorem dX0_init_15 : decode cX0_init 15 = .ok (.aload_n 0, 1) := by decide +kernel
theorem dX0_init_16 : decode cX0_init 16 = .ok (.aload_n 1, 1) := by decide +kernel
theorem dX0_init_17 : decode cX0_init 17 = .ok (.putfield 18, 3) := by decide +kernel
theorem dX0_init_20 : decode cX0_init 20 = .ok (.return_, 1) := by decide +kernel
theorem dX0_search_0 : decode cX0_search 0 = .ok (.aload_n 0, 1) := by decide +kernel
theorem dX0_search_1 : decode cX0_search 1 = .ok (.iload_n 1, 1) := by decide +kernel
theorem dX0_search_2 : decode cX0_search 2 = .ok (.putfield 22, 3) := by decide +kernel
theorem dX0_search_5 : decode cX0_search 5 = .ok (.aload_n 0, 1) := by decide +kernel
theorem dX0_search_6 : decode cX0_search 6 = .ok (.iload_n 2, 1) := by decide +kernel
theorem dX0_search_7 : decode cX0_search 7 = .ok (.putfield 26, 3) := by decide +kernel
theorem dX0_search_10 : decode cX0_search 10 = .ok (.aload_n 0, 1) := by decide +kernel
theorem dX0_search_11 : decode cX0_search 11 = .ok (.ldc 29, 2) := by decide +kernel
theorem dX0_search_13 : decode cX0_search 13 = .ok (.putfield 30, 3) := by decide +kernel
theorem dX0_search_16 : decode cX0_search 16 = .ok (.aload_n 0, 1) := by decide +kernel
theorem dX0_search_17 : decode cX0_search 17 = .ok (.getfield 18, 3) := by decide +kernel
theorem dX0_search_20 : decode cX0_search 20 = .ok (.aload_n 0, 1) := by decide +kernel
theorem dX0_search_21 : decode cX0_search 21 = .ok (.getfield 14, 3) := by decide +kernel
theorem dX0_search_24 : decode cX0_search 24 = .ok (.invokevirtual 33, 3) := by decide +kernel
theorem dX0_search_27 : decode cX0_search 27 = .ok (.aload_n 0, 1) := by decide +kernel
theorem dX0_search_28 : decode cX0_search 28 = .ok (.iconst 0, 1) := by decide +kernel
theorem dX0_search_29 : decode cX0_search 29 = .ok (.iload_n 1, 1) := by decide +kernel
theorem dX0_search_30 : decode cX0_search 30 = .ok (.iconst 0, 1) := by decide +kernel
theorem dX0_search_31 : decode cX0_search 31 = .ok (.invokevirtual 39, 3) := by decide +kernel
theorem dX0_search_34 : decode cX0_search 34 = .ok (.aload_n 0, 1) := by decide +kernel
theorem dX0_search_35 : decode cX0_search 35 = .ok (.getfield 30, 3) := by decide +kernel
theorem dX0_search_38 : decode cX0_search 38 = .ok (.ldc 29, 2) := by decide +kernel
theorem dX0_search_40 : decode cX0_search 40 = .ok (.if_icmp .ge 7, 3) := by decide +kernel
theorem dX0_search_43 : decode cX0_search 43 = .ok (.iconst 1, 1) := by decide +kernel
theorem dX0_search_44 : decode cX0_search 44 = .ok (.goto 4, 3) := by decide +kernel
theorem dX0_search_47 : decode cX0_search 47 = .ok (.iconst 0, 1) := by decide +kernel
theorem dX0_search_48 : decode cX0_search 48 = .ok (.ireturn, 1) := by decide +kernel
theorem dX0_soonestMinute_0 : decode cX0_soonestMinute 0 = .ok (.aload_n 0, 1) := by decide +kernel
theorem dX0_soonestMinute_1 : decode cX0_soonestMinute 1 = .ok (.getfield 30, 3) := by decide +kernel
theorem dX0_soonestMinute_4 : decode cX0_soonestMinute 4 = .ok (.bipush 16, 2) := by decide +kernel
theorem dX0_soonestMinute_6 : decode cX0_soonestMinute 6 = .ok (.ishr, 1) := by decide +kernel
theorem dX0_soonestMinute_7 : decode cX0_soonestMinute 7 = .ok (.ireturn, 1) := by decide +kernel
theorem dX0_minuteOf_0 : decode cX0_minuteOf 0 = .ok (.aload_n 0, 1) := by decide +kernel
theorem dX0_minuteOf_1 : decode cX0_minuteOf 1 = .ok (.getfield 30, 3) := by decide +kernel
theorem dX0_minuteOf_4 : decode cX0_minuteOf 4 = .ok (.aload_n 0, 1) := by decide +kernel
theorem dX0_minuteOf_5 : decode cX0_minuteOf 5 = .ok (.iload_n 1, 1) := by decide +kernel
theorem dX0_minuteOf_6 : decode cX0_minuteOf 6 = .ok (.invokevirtual 43, 3) := by decide +kernel
theorem dX0_minuteOf_9 : decode cX0_minuteOf 9 = .ok (.ishr, 1) := by decide +kernel
theorem dX0_minuteOf_10 : decode cX0_minuteOf 10 = .ok (.bipush 15, 2) := by decide +kernel
theorem dX0_minuteOf_12 : decode cX0_minuteOf 12 = .ok (.iand, 1) := by decide +kernel
theorem dX0_minuteOf_13 : decode cX0_minuteOf 13 = .ok (.ireturn, 1) := by decide +kernel
theorem dX0_shiftOf_0 : decode cX0_shiftOf 0 = .ok (.aload_n 0, 1) := by decide +kernel
theorem dX0_shiftOf_1 : decode cX0_shiftOf 1 = .ok (.getfield 22, 3) := by decide +kernel
theorem dX0_shiftOf_4 : decode cX0_shiftOf 4 = .ok (.iconst 1, 1) := by decide +kernel
theorem dX0_shiftOf_5 : decode cX0_shiftOf 5 = .ok (.iload_n 1, 1) := by decide +kernel
theorem dX0_shiftOf_6 : decode cX0_shiftOf 6 = .ok (.ishl, 1) := by decide +kernel
theorem dX0_shiftOf_7 : decode cX0_shiftOf 7 = .ok (.iconst 1, 1) := by decide +kernel
theorem dX0_shiftOf_8 : decode cX0_shiftOf 8 = .ok (.isub, 1) := by decide +kernel
theorem dX0_shiftOf_9 : decode cX0_shiftOf 9 = .ok (.iand, 1) := by decide +kernel
theorem dX0_shiftOf_10 : decode cX0_shiftOf 10 = .ok (.invokestatic 47, 3) := by decide +kernel
theorem dX0_shiftOf_13 : decode cX0_shiftOf 13 = .ok (.istore_n 2, 1) := by decide +kernel
theorem dX0_shiftOf_14 : decode cX0_shiftOf 14 = .ok (.iconst 4, 1) := by decide +kernel
theorem dX0_shiftOf_15 : decode cX0_shiftOf 15 = .ok (.iconst 3, 1) := by decide +kernel
theorem dX0_shiftOf_16 : decode cX0_shiftOf 16 = .ok (.iload_n 2, 1) := by decide +kernel
theorem dX0_shiftOf_17 : decode cX0_shiftOf 17 = .ok (.isub, 1) := by decide +kernel
theorem dX0_shiftOf_18 : decode cX0_shiftOf 18 = .ok (.imul, 1) := by decide +kernel
theorem dX0_shiftOf_19 : decode cX0_shiftOf 19 = .ok (.ireturn, 1) := by decide +kernel
theorem dX0_goOn_0 : decode cX0_goOn 0 = .ok (.iload_n 1, 1) := by decide +kernel
theorem dX0_goOn_1 : decode cX0_goOn 1 = .ok (.bipush 11, 2) := by decide +kernel
theorem dX0_goOn_3 : decode cX0_goOn 3 = .ok (.if_icmp .gt 14, 3) := by decide +kernel
theorem dX0_goOn_6 : decode cX0_goOn 6 = .ok (.iload_n 1, 1) := by decide +kernel
theorem dX0_goOn_7 : decode cX0_goOn 7 = .ok (.aload_n 0, 1) := by decide +kernel
theorem dX0_goOn_8 : decode cX0_goOn 8 = .ok (.getfield 30, 3) := by decide +kernel
theorem dX0_goOn_11 : decode cX0_goOn 11 = .ok (.bipush 16, 2) := by decide +kernel
theorem dX0_goOn_13 : decode cX0_goOn 13 = .ok (.ishr, 1) := by decide +kernel
theorem dX0_goOn_14 : decode cX0_goOn 14 = .ok (.if_icmp .le 4, 3) := by decide +kernel
theorem dX0_goOn_17 : decode cX0_goOn 17 = .ok (.return_, 1) := by decide +kernel
theorem dX0_goOn_18 : decode cX0_goOn 18 = .ok (.aload_n 0, 1) := by decide +kernel
theorem dX0_goOn_19 : decode cX0_goOn 19 = .ok (.getfield 18, 3) := by decide +kernel
theorem dX0_goOn_22 : decode cX0_goOn 22 = .ok (.aload_n 0, 1) := by decide +kernel
theorem dX0_goOn_23 : decode cX0_goOn 23 = .ok (.getfield 18, 3) := by decide +kernel
theorem dX0_goOn_26 : decode cX0_goOn 26 = .ok (.invokevirtual 52, 3) := by decide +kernel
theorem dX0_goOn_29 : decode cX0_goOn 29 = .ok (.iload_n 1, 1) := by decide +kernel
theorem dX0_goOn_30 : decode cX0_goOn 30 = .ok (.iadd, 1) := by decide +kernel
theorem dX0_goOn_31 : decode cX0_goOn 31 = .ok (.bipush 12, 2) := by decide +kernel
theorem dX0_goOn_33 : decode cX0_goOn 33 = .ok (.irem, 1) := by decide +kernel
theorem dX0_goOn_34 : decode cX0_goOn 34 = .ok (.invokevirtual 56, 3) := by decide +kernel
theorem dX0_goOn_37 : decode cX0_goOn 37 = .ok (.istore 4, 2) := by decide +kernel
theorem dX0_goOn_39 : decode cX0_goOn 39 = .ok (.iload_n 2, 1) := by decide +kernel
theorem dX0_goOn_40 : decode cX0_goOn 40 = .ok (.istore 5, 2) := by decide +kernel
theorem dX0_goOn_42 : decode cX0_goOn 42 = .ok (.iconst 0, 1) := by decide +kernel
theorem dX0_goOn_43 : decode cX0_goOn 43 = .ok (.istore 6, 2) := by decide +kernel
theorem dX0_goOn_45 : decode cX0_goOn 45 = .ok (.iload 6, 2) := by decide +kernel
theorem dX0_goOn_47 : decode cX0_goOn 47 = .ok (.bipush 16, 2) := by decide +kernel
theorem dX0_goOn_49 : decode cX0_goOn 49 = .ok (.if_icmp .ge 59, 3) := by decide +kernel
theorem dX0_goOn_52 : decode cX0_goOn 52 = .ok (.iload 5, 2) := by decide +kernel
theorem dX0_goOn_54 : decode cX0_goOn 54 = .ok (.ifCond .ne 6, 3) := by decide +kernel
theorem dX0_goOn_57 : decode cX0_goOn 57 = .ok (.goto 51, 3) := by decide +kernel
theorem dX0_goOn_60 : decode cX0_goOn 60 = .ok (.aload_n 0, 1) := by decide +kernel
theorem dX0_goOn_61 : decode cX0_goOn 61 = .ok (.iload 5, 2) := by decide +kernel
theorem dX0_goOn_63 : decode cX0_goOn 63 = .ok (.iload_n 2, 1) := by decide +kernel
theorem dX0_goOn_64 : decode cX0_goOn 64 = .ok (.invokevirtual 59, 3) := by decide +kernel
theorem dX0_goOn_67 : decode cX0_goOn 67 = .ok (.ifCond .eq 27, 3) := by decide +kernel
theorem dX0_goOn_70 : decode cX0_goOn 70 = .ok (.aload_n 0, 1) := by decide +kernel
theorem dX0_goOn_71 : decode cX0_goOn 71 = .ok (.getfield 18, 3) := by decide +kernel
theorem dX0_goOn_74 : decode cX0_goOn 74 = .ok (.iload 4, 2) := by decide +kernel
theorem dX0_goOn_76 : decode cX0_goOn 76 = .ok (.iload 5, 2) := by decide +kernel
theorem dX0_goOn_78 : decode cX0_goOn 78 = .ok (.ior, 1) := by decide +kernel
theorem dX0_goOn_79 : decode cX0_goOn 79 = .ok (.invokevirtual 63, 3) := by decide +kernel
theorem dX0_goOn_82 : decode cX0_goOn 82 = .ok (.ifCond .eq 12, 3) := by decide +kernel
theorem dX0_goOn_85 : decode cX0_goOn 85 = .ok (.aload_n 0, 1) := by decide +kernel
theorem dX0_goOn_86 : decode cX0_goOn 86 = .ok (.iload_n 1, 1) := by decide +kernel
theorem dX0_goOn_87 : decode cX0_goOn 87 = .ok (.iload_n 2, 1) := by decide +kernel
theorem dX0_goOn_88 : decode cX0_goOn 88 = .ok (.iload_n 3, 1) := by decide +kernel
theorem dX0_goOn_89 : decode cX0_goOn 89 = .ok (.iload 5, 2) := by decide +kernel
theorem dX0_goOn_91 : decode cX0_goOn 91 = .ok (.invokevirtual 67, 3) := by decide +kernel
theorem dX0_goOn_94 : decode cX0_goOn 94 = .ok (.iload 5, 2) := by decide +kernel
theorem dX0_goOn_96 : decode cX0_goOn 96 = .ok (.iconst 1, 1) := by decide +kernel
theorem dX0_goOn_97 : decode cX0_goOn 97 = .ok (.isub, 1) := by decide +kernel
theorem dX0_goOn_98 : decode cX0_goOn 98 = .ok (.iload_n 2, 1) := by decide +kernel
theorem dX0_goOn_99 : decode cX0_goOn 99 = .ok (.iand, 1) := by decide +kernel
theorem dX0_goOn_100 : decode cX0_goOn 100 = .ok (.istore 5, 2) := by decide +kernel
theorem dX0_goOn_102 : decode cX0_goOn 102 = .ok (.iinc 6 1, 3) := by decide +kernel
theorem dX0_goOn_105 : decode cX0_goOn 105 = .ok (.goto (-60), 3) := by decide +kernel
theorem dX0_goOn_108 : decode cX0_goOn 108 = .ok (.aload_n 0, 1) := by decide +kernel
theorem dX0_goOn_109 : decode cX0_goOn 109 = .ok (.iload_n 1, 1) := by decide +kernel
theorem dX0_goOn_110 : decode cX0_goOn 110 = .ok (.iconst 1, 1) := by decide +kernel
theorem dX0_goOn_111 : decode cX0_goOn 111 = .ok (.iadd, 1) := by decide +kernel
theorem dX0_goOn_112 : decode cX0_goOn 112 = .ok (.iload_n 2, 1) := by decide +kernel
theorem dX0_goOn_113 : decode cX0_goOn 113 = .ok (.iload_n 3, 1) := by decide +kernel
theorem dX0_goOn_114 : decode cX0_goOn 114 = .ok (.invokevirtual 39, 3) := by decide +kernel
theorem dX0_goOn_117 : decode cX0_goOn 117 = .ok (.return_, 1) := by decide +kernel
theorem dX0_mayGoTogether_0 : decode cX0_mayGoTogether 0 = .ok (.iload_n 2, 1) := by decide +kernel
theorem dX0_mayGoTogether_1 : decode cX0_mayGoTogether 1 = .ok (.iload_n 1, 1) := by decide +kernel
theorem dX0_mayGoTogether_2 : decode cX0_mayGoTogether 2 = .ok (.iconst (-1), 1) := by decide +kernel
theorem dX0_mayGoTogether_3 : decode cX0_mayGoTogether 3 = .ok (.ixor, 1) := by decide +kernel
theorem dX0_mayGoTogether_4 : decode cX0_mayGoTogether 4 = .ok (.iand, 1) := by decide +kernel
theorem dX0_mayGoTogether_5 : decode cX0_mayGoTogether 5 = .ok (.istore_n 3, 1) := by decide +kernel
theorem dX0_mayGoTogether_6 : decode cX0_mayGoTogether 6 = .ok (.iload_n 3, 1) := by decide +kernel
theorem dX0_mayGoTogether_7 : decode cX0_mayGoTogether 7 = .ok (.ifCond .ne 5, 3) := by decide +kernel
theorem dX0_mayGoTogether_10 : decode cX0_mayGoTogether 10 = .ok (.iconst 1, 1) := by decide +kernel
theorem dX0_mayGoTogether_11 : decode cX0_mayGoTogether 11 = .ok (.ireturn, 1) := by decide +kernel
theorem dX0_mayGoTogether_12 : decode cX0_mayGoTogether 12 = .ok (.aload_n 0, 1) := by decide +kernel
theorem dX0_mayGoTogether_13 : decode cX0_mayGoTogether 13 = .ok (.getfield 26, 3) := by decide +kernel
theorem dX0_mayGoTogether_16 : decode cX0_mayGoTogether 16 = .ok (.iconst 1, 1) := by decide +kernel
theorem dX0_mayGoTogether_17 : decode cX0_mayGoTogether 17 = .ok (.if_icmp .ne 21, 3) := by decide +kernel
theorem dX0_mayGoTogether_20 : decode cX0_mayGoTogether 20 = .ok (.iload_n 3, 1) := by decide +kernel
theorem dX0_mayGoTogether_21 : decode cX0_mayGoTogether 21 = .ok (.iload_n 3, 1) := by decide +kernel
theorem dX0_mayGoTogether_22 : decode cX0_mayGoTogether 22 = .ok (.ineg, 1) := by decide +kernel
theorem dX0_mayGoTogether_23 : decode cX0_mayGoTogether 23 = .ok (.iand, 1) := by decide +kernel
theorem dX0_mayGoTogether_24 : decode cX0_mayGoTogether 24 = .ok (.istore 4, 2) := by decide +kernel
theorem dX0_mayGoTogether_26 : decode cX0_mayGoTogether 26 = .ok (.iload 4, 2) := by decide +kernel
theorem dX0_mayGoTogether_28 : decode cX0_mayGoTogether 28 = .ok (.iload_n 1, 1) := by decide +kernel
theorem dX0_mayGoTogether_29 : decode cX0_mayGoTogether 29 = .ok (.if_icmp .le 7, 3) := by decide +kernel
theorem dX0_mayGoTogether_32 : decode cX0_mayGoTogether 32 = .ok (.iconst 1, 1) := by decide +kernel
theorem dX0_mayGoTogether_33 : decode cX0_mayGoTogether 33 = .ok (.goto 4, 3) := by decide +kernel
theorem dX0_mayGoTogether_36 : decode cX0_mayGoTogether 36 = .ok (.iconst 0, 1) := by decide +kernel
theorem dX0_mayGoTogether_37 : decode cX0_mayGoTogether 37 = .ok (.ireturn, 1) := by decide +kernel
theorem dX0_mayGoTogether_38 : decode cX0_mayGoTogether 38 = .ok (.aload_n 0, 1) := by decide +kernel
theorem dX0_mayGoTogether_39 : decode cX0_mayGoTogether 39 = .ok (.getfield 26, 3) := by decide +kernel
theorem dX0_mayGoTogether_42 : decode cX0_mayGoTogether 42 = .ok (.iconst 2, 1) := by decide +kernel
theorem dX0_mayGoTogether_43 : decode cX0_mayGoTogether 43 = .ok (.if_icmp .eq 7, 3) := by decide +kernel
theorem dX0_mayGoTogether_46 : decode cX0_mayGoTogether 46 = .ok (.iconst 1, 1) := by decide +kernel
theorem dX0_mayGoTogether_47 : decode cX0_mayGoTogether 47 = .ok (.goto 4, 3) := by decide +kernel
theorem dX0_mayGoTogether_50 : decode cX0_mayGoTogether 50 = .ok (.iconst 0, 1) := by decide +kernel
theorem dX0_mayGoTogether_51 : decode cX0_mayGoTogether 51 = .ok (.ireturn, 1) := by decide +kernel
theorem dX0_putIn_0 : decode cX0_putIn 0 = .ok (.aload_n 0, 1) := by decide +kernel
theorem dX0_putIn_1 : decode cX0_putIn 1 = .ok (.getfield 18, 3) := by decide +kernel
theorem dX0_putIn_4 : decode cX0_putIn 4 = .ok (.invokevirtual 52, 3) := by decide +kernel
theorem dX0_putIn_7 : decode cX0_putIn 7 = .ok (.iload_n 1, 1) := by decide +kernel
theorem dX0_putIn_8 : decode cX0_putIn 8 = .ok (.iadd, 1) := by decide +kernel
theorem dX0_putIn_9 : decode cX0_putIn 9 = .ok (.bipush 12, 2) := by decide +kernel
theorem dX0_putIn_11 : decode cX0_putIn 11 = .ok (.irem, 1) := by decide +kernel
theorem dX0_putIn_12 : decode cX0_putIn 12 = .ok (.istore 5, 2) := by decide +kernel
theorem dX0_putIn_14 : decode cX0_putIn 14 = .ok (.aload_n 0, 1) := by decide +kernel
theorem dX0_putIn_15 : decode cX0_putIn 15 = .ok (.getfield 18, 3) := by decide +kernel
theorem dX0_putIn_18 : decode cX0_putIn 18 = .ok (.iload 4, 2) := by decide +kernel
theorem dX0_putIn_20 : decode cX0_putIn 20 = .ok (.invokevirtual 71, 3) := by decide +kernel
theorem dX0_putIn_23 : decode cX0_putIn 23 = .ok (.istore 6, 2) := by decide +kernel
theorem dX0_putIn_25 : decode cX0_putIn 25 = .ok (.aload_n 0, 1) := by decide +kernel
theorem dX0_putIn_26 : decode cX0_putIn 26 = .ok (.getfield 14, 3) := by decide +kernel
theorem dX0_putIn_29 : decode cX0_putIn 29 = .ok (.iload 5, 2) := by decide +kernel
theorem dX0_putIn_31 : decode cX0_putIn 31 = .ok (.iload 6, 2) := by decide +kernel
theorem dX0_putIn_33 : decode cX0_putIn 33 = .ok (.invokevirtual 74, 3) := by decide +kernel
theorem dX0_putIn_36 : decode cX0_putIn 36 = .ok (.aload_n 0, 1) := by decide +kernel
theorem dX0_putIn_37 : decode cX0_putIn 37 = .ok (.getfield 14, 3) := by decide +kernel
theorem dX0_putIn_40 : decode cX0_putIn 40 = .ok (.aload_n 0, 1) := by decide +kernel
theorem dX0_putIn_41 : decode cX0_putIn 41 = .ok (.getfield 18, 3) := by decide +kernel
theorem dX0_putIn_44 : decode cX0_putIn 44 = .ok (.getfield 78, 3) := by decide +kernel
theorem dX0_putIn_47 : decode cX0_putIn 47 = .ok (.invokevirtual 81, 3) := by decide +kernel
theorem dX0_putIn_50 : decode cX0_putIn 50 = .ok (.ifCond .eq 56, 3) := by decide +kernel
theorem dX0_putIn_53 : decode cX0_putIn 53 = .ok (.iload_n 3, 1) := by decide +kernel
theorem dX0_putIn_54 : decode cX0_putIn 54 = .ok (.aload_n 0, 1) := by decide +kernel
theorem dX0_putIn_55 : decode cX0_putIn 55 = .ok (.iload 4, 2) := by decide +kernel
theorem dX0_putIn_57 : decode cX0_putIn 57 = .ok (.iload_n 1, 1) := by decide +kernel
theorem dX0_putIn_58 : decode cX0_putIn 58 = .ok (.invokevirtual 84, 3) := by decide +kernel
theorem dX0_putIn_61 : decode cX0_putIn 61 = .ok (.ior, 1) := by decide +kernel
theorem dX0_putIn_62 : decode cX0_putIn 62 = .ok (.istore 7, 2) := by decide +kernel
theorem dX0_putIn_64 : decode cX0_putIn 64 = .ok (.iload 4, 2) := by decide +kernel
theorem dX0_putIn_66 : decode cX0_putIn 66 = .ok (.iload_n 2, 1) := by decide +kernel
theorem dX0_putIn_67 : decode cX0_putIn 67 = .ok (.if_icmp .ne 24, 3) := by decide +kernel
theorem dX0_putIn_70 : decode cX0_putIn 70 = .ok (.aload_n 0, 1) := by decide +kernel
theorem dX0_putIn_71 : decode cX0_putIn 71 = .ok (.aload_n 0, 1) := by decide +kernel
theorem dX0_putIn_72 : decode cX0_putIn 72 = .ok (.getfield 30, 3) := by decide +kernel
theorem dX0_putIn_75 : decode cX0_putIn 75 = .ok (.iload_n 1, 1) := by decide +kernel
theorem dX0_putIn_76 : decode cX0_putIn 76 = .ok (.bipush 16, 2) := by decide +kernel
theorem dX0_putIn_78 : decode cX0_putIn 78 = .ok (.ishl, 1) := by decide +kernel
theorem dX0_putIn_79 : decode cX0_putIn 79 = .ok (.iload 7, 2) := by decide +kernel
theorem dX0_putIn_81 : decode cX0_putIn 81 = .ok (.ior, 1) := by decide +kernel
theorem dX0_putIn_82 : decode cX0_putIn 82 = .ok (.invokestatic 88, 3) := by decide +kernel
theorem dX0_putIn_85 : decode cX0_putIn 85 = .ok (.putfield 30, 3) := by decide +kernel
theorem dX0_putIn_88 : decode cX0_putIn 88 = .ok (.goto 18, 3) := by decide +kernel
theorem dX0_putIn_91 : decode cX0_putIn 91 = .ok (.aload_n 0, 1) := by decide +kernel
theorem dX0_putIn_92 : decode cX0_putIn 92 = .ok (.iload_n 1, 1) := by decide +kernel
theorem dX0_putIn_93 : decode cX0_putIn 93 = .ok (.iconst 1, 1) := by decide +kernel
theorem dX0_putIn_94 : decode cX0_putIn 94 = .ok (.iadd, 1) := by decide +kernel
theorem dX0_putIn_95 : decode cX0_putIn 95 = .ok (.iload_n 2, 1) := by decide +kernel
theorem dX0_putIn_96 : decode cX0_putIn 96 = .ok (.iload 4, 2) := by decide +kernel
theorem dX0_putIn_98 : decode cX0_putIn 98 = .ok (.iconst (-1), 1) := by decide +kernel
theorem dX0_putIn_99 : decode cX0_putIn 99 = .ok (.ixor, 1) := by decide +kernel
theorem dX0_putIn_100 : decode cX0_putIn 100 = .ok (.iand, 1) := by decide +kernel
theorem dX0_putIn_101 : decode cX0_putIn 101 = .ok (.iload 7, 2) := by decide +kernel
theorem dX0_putIn_103 : decode cX0_putIn 103 = .ok (.invokevirtual 39, 3) := by decide +kernel
theorem dX0_putIn_106 : decode cX0_putIn 106 = .ok (.aload_n 0, 1) := by decide +kernel
theorem dX0_putIn_107 : decode cX0_putIn 107 = .ok (.getfield 14, 3) := by decide +kernel
theorem dX0_putIn_110 : decode cX0_putIn 110 = .ok (.iload 5, 2) := by decide +kernel
theorem dX0_putIn_112 : decode cX0_putIn 112 = .ok (.iload 6, 2) := by decide +kernel
theorem dX0_putIn_114 : decode cX0_putIn 114 = .ok (.ineg, 1) := by decide +kernel
theorem dX0_putIn_115 : decode cX0_putIn 115 = .ok (.invokevirtual 74, 3) := by decide +kernel
theorem dX0_putIn_118 : decode cX0_putIn 118 = .ok (.return_, 1) := by decide +kernel
theorem dX0_rowOf_0 : decode cX0_rowOf 0 = .ok (.iconst 0, 1) := by decide +kernel
theorem dX0_rowOf_1 : decode cX0_rowOf 1 = .ok (.istore_n 3, 1) := by decide +kernel
theorem dX0_rowOf_2 : decode cX0_rowOf 2 = .ok (.iconst 0, 1) := by decide +kernel
theorem dX0_rowOf_3 : decode cX0_rowOf 3 = .ok (.istore 4, 2) := by decide +kernel
theorem dX0_rowOf_5 : decode cX0_rowOf 5 = .ok (.iload 4, 2) := by decide +kernel
theorem dX0_rowOf_7 : decode cX0_rowOf 7 = .ok (.bipush 10, 2) := by decide +kernel
theorem dX0_rowOf_9 : decode cX0_rowOf 9 = .ok (.if_icmp .ge 29, 3) := by decide +kernel
theorem dX0_rowOf_12 : decode cX0_rowOf 12 = .ok (.iload_n 1, 1) := by decide +kernel
theorem dX0_rowOf_13 : decode cX0_rowOf 13 = .ok (.iload 4, 2) := by decide +kernel
theorem dX0_rowOf_15 : decode cX0_rowOf 15 = .ok (.ishr, 1) := by decide +kernel
theorem dX0_rowOf_16 : decode cX0_rowOf 16 = .ok (.iconst 1, 1) := by decide +kernel
theorem dX0_rowOf_17 : decode cX0_rowOf 17 = .ok (.iand, 1) := by decide +kernel
theorem dX0_rowOf_18 : decode cX0_rowOf 18 = .ok (.ifCond .eq 14, 3) := by decide +kernel
theorem dX0_rowOf_21 : decode cX0_rowOf 21 = .ok (.iload_n 3, 1) := by decide +kernel
theorem dX0_rowOf_22 : decode cX0_rowOf 22 = .ok (.iload_n 2, 1) := by decide +kernel
theorem dX0_rowOf_23 : decode cX0_rowOf 23 = .ok (.aload_n 0, 1) := by decide +kernel
theorem dX0_rowOf_24 : decode cX0_rowOf 24 = .ok (.iload 4, 2) := by decide +kernel
theorem dX0_rowOf_26 : decode cX0_rowOf 26 = .ok (.invokevirtual 43, 3) := by decide +kernel
theorem dX0_rowOf_29 : decode cX0_rowOf 29 = .ok (.ishl, 1) := by decide +kernel
theorem dX0_rowOf_30 : decode cX0_rowOf 30 = .ok (.ior, 1) := by decide +kernel
theorem dX0_rowOf_31 : decode cX0_rowOf 31 = .ok (.istore_n 3, 1) := by decide +kernel
theorem dX0_rowOf_32 : decode cX0_rowOf 32 = .ok (.iinc 4 1, 3) := by decide +kernel
theorem dX0_rowOf_35 : decode cX0_rowOf 35 = .ok (.goto (-30), 3) := by decide +kernel
theorem dX0_rowOf_38 : decode cX0_rowOf 38 = .ok (.iload_n 3, 1) := by decide +kernel
theorem dX0_rowOf_39 : decode cX0_rowOf 39 = .ok (.ireturn, 1) := by decide +kernel
theorem dX1_init_0 : decode cX1_init 0 = .ok (.aload_n 0, 1) := by decide +kernel
theorem dX1_init_1 : decode cX1_init 1 = .ok (.invokespecial 3, 3) := by decide +kernel
theorem dX1_init_4 : decode cX1_init 4 = .ok (.aload_n 0, 1) := by decide +kernel
theorem dX1_init_5 : decode cX1_init 5 = .ok (.new 9, 3) := by decide +kernel
theorem dX1_init_8 : decode cX1_init 8 = .ok (.dup, 1) := by decide +kernel
theorem dX1_init_9 : decode cX1_init 9 = .ok (.invokespecial 11, 3) := by decide +kernel
theorem dX1_init_12 : decode cX1_init 12 = .ok (.putfield 12, 3) := by decide +kernel
theorem dX1_init_15 : decode cX1_init 15 = .ok (.aload_n 0, 1) := by decide +kernel
theorem dX1_init_16 : decode cX1_init 16 = .ok (.new 9, 3) := by decide +kernel
theorem dX1_init_19 : decode cX1_init 19 = .ok (.dup, 1) := by decide +kernel
theorem dX1_init_20 : decode cX1_init 20 = .ok (.invokespecial 11, 3) := by decide +kernel
theorem dX1_init_23 : decode cX1_init 23 = .ok (.putfield 18, 3) := by decide +kernel
theorem dX1_init_26 : decode cX1_init 26 = .ok (.aload_n 0, 1) := by decide +kernel
theorem dX1_init_27 : decode cX1_init 27 = .ok (.sipush 1024, 3) := by decide +kernel
theorem dX1_init_30 : decode cX1_init 30 = .ok (.newarray .int, 2) := by decide +kernel
theorem dX1_init_32 : decode cX1_init 32 = .ok (.putfield 21, 3) := by decide +kernel
theorem dX1_init_35 : decode cX1_init 35 = .ok (.aload_n 0, 1) := by decide +kernel
theorem dX1_init_36 : decode cX1_init 36 = .ok (.aload_n 1, 1) := by decide +kernel
theorem dX1_init_37 : decode cX1_init 37 = .ok (.putfield 25, 3) := by decide +kernel
theorem dX1_init_40 : decode cX1_init 40 = .ok (.return_, 1) := by decide +kernel
theorem dX1_fewestMinutes_0 : decode cX1_fewestMinutes 0 = .ok (.aload_n 0, 1) := by decide +kernel
theorem dX1_fewestMinutes_1 : decode cX1_fewestMinutes 1 = .ok (.getfield 25, 3) := by decide +kernel
theorem dX1_fewestMinutes_4 : decode cX1_fewestMinutes 4 = .ok (.invokevirtual 29, 3) := by decide +kernel
theorem dX1_fewestMinutes_7 : decode cX1_fewestMinutes 7 = .ok (.istore_n 1, 1) := by decide +kernel
theorem dX1_fewestMinutes_8 : decode cX1_fewestMinutes 8 = .ok (.iconst 0, 1) := by decide +kernel
theorem dX1_fewestMinutes_9 : decode cX1_fewestMinutes 9 = .ok (.istore_n 2, 1) := by decide +kernel
theorem dX1_fewestMinutes_10 : decode cX1_fewestMinutes 10 = .ok (.iload_n 2, 1) := by decide +kernel
theorem dX1_fewestMinutes_11 : decode cX1_fewestMinutes 11 = .ok (.iload_n 1, 1) := by decide +kernel
theorem dX1_fewestMinutes_12 : decode cX1_fewestMinutes 12 = .ok (.if_icmp .gt 16, 3) := by decide +kernel
theorem dX1_fewestMinutes_15 : decode cX1_fewestMinutes 15 = .ok (.aload_n 0, 1) := by decide +kernel
theorem dX1_fewestMinutes_16 : decode cX1_fewestMinutes 16 = .ok (.getfield 21, 3) := by decide +kernel
theorem dX1_fewestMinutes_19 : decode cX1_fewestMinutes 19 = .ok (.iload_n 2, 1) := by decide +kernel
theorem dX1_fewestMinutes_20 : decode cX1_fewestMinutes 20 = .ok (.iconst 0, 1) := by decide +kernel
theorem dX1_fewestMinutes_21 : decode cX1_fewestMinutes 21 = .ok (.iastore, 1) := by decide +kernel
theorem dX1_fewestMinutes_22 : decode cX1_fewestMinutes 22 = .ok (.iinc 2 1, 3) := by decide +kernel
theorem dX1_fewestMinutes_25 : decode cX1_fewestMinutes 25 = .ok (.goto (-15), 3) := by decide +kernel
theorem dX1_fewestMinutes_28 : decode cX1_fewestMinutes 28 = .ok (.aload_n 0, 1) := by decide +kernel
theorem dX1_fewestMinutes_29 : decode cX1_fewestMinutes 29 = .ok (.getfield 21, 3) := by decide +kernel
theorem dX1_fewestMinutes_32 : decode cX1_fewestMinutes 32 = .ok (.iload_n 1, 1) := by decide +kernel
theorem dX1_fewestMinutes_33 : decode cX1_fewestMinutes 33 = .ok (.iconst 1, 1) := by decide +kernel
theorem dX1_fewestMinutes_34 : decode cX1_fewestMinutes 34 = .ok (.iastore, 1) := by decide +kernel
theorem dX1_fewestMinutes_35 : decode cX1_fewestMinutes 35 = .ok (.aload_n 0, 1) := by decide +kernel
theorem dX1_fewestMinutes_36 : decode cX1_fewestMinutes 36 = .ok (.getfield 25, 3) := by decide +kernel
theorem dX1_fewestMinutes_39 : decode cX1_fewestMinutes 39 = .ok (.aload_n 0, 1) := by decide +kernel
theorem dX1_fewestMinutes_40 : decode cX1_fewestMinutes 40 = .ok (.getfield 12, 3) := by decide +kernel
theorem dX1_fewestMinutes_43 : decode cX1_fewestMinutes 43 = .ok (.invokevirtual 35, 3) := by decide +kernel
theorem dX1_fewestMinutes_46 : decode cX1_fewestMinutes 46 = .ok (.iconst 0, 1) := by decide +kernel
theorem dX1_fewestMinutes_47 : decode cX1_fewestMinutes 47 = .ok (.istore_n 2, 1) := by decide +kernel
theorem dX1_fewestMinutes_48 : decode cX1_fewestMinutes 48 = .ok (.iload_n 2, 1) := by decide +kernel
theorem dX1_fewestMinutes_49 : decode cX1_fewestMinutes 49 = .ok (.bipush 23, 2) := by decide +kernel
theorem dX1_fewestMinutes_51 : decode cX1_fewestMinutes 51 = .ok (.if_icmp .gt 38, 3) := by decide +kernel
theorem dX1_fewestMinutes_54 : decode cX1_fewestMinutes 54 = .ok (.aload_n 0, 1) := by decide +kernel
theorem dX1_fewestMinutes_55 : decode cX1_fewestMinutes 55 = .ok (.aload_n 0, 1) := by decide +kernel
theorem dX1_fewestMinutes_56 : decode cX1_fewestMinutes 56 = .ok (.getfield 25, 3) := by decide +kernel
theorem dX1_fewestMinutes_59 : decode cX1_fewestMinutes 59 = .ok (.invokevirtual 39, 3) := by decide +kernel
theorem dX1_fewestMinutes_62 : decode cX1_fewestMinutes 62 = .ok (.iload_n 2, 1) := by decide +kernel
theorem dX1_fewestMinutes_63 : decode cX1_fewestMinutes 63 = .ok (.iadd, 1) := by decide +kernel
theorem dX1_fewestMinutes_64 : decode cX1_fewestMinutes 64 = .ok (.bipush 12, 2) := by decide +kernel
theorem dX1_fewestMinutes_66 : decode cX1_fewestMinutes 66 = .ok (.irem, 1) := by decide +kernel
theorem dX1_fewestMinutes_67 : decode cX1_fewestMinutes 67 = .ok (.iload_n 1, 1) := by decide +kernel
theorem dX1_fewestMinutes_68 : decode cX1_fewestMinutes 68 = .ok (.invokevirtual 42, 3) := by decide +kernel
theorem dX1_fewestMinutes_71 : decode cX1_fewestMinutes 71 = .ok (.aload_n 0, 1) := by decide +kernel
theorem dX1_fewestMinutes_72 : decode cX1_fewestMinutes 72 = .ok (.getfield 21, 3) := by decide +kernel
theorem dX1_fewestMinutes_75 : decode cX1_fewestMinutes 75 = .ok (.iconst 0, 1) := by decide +kernel
theorem dX1_fewestMinutes_76 : decode cX1_fewestMinutes 76 = .ok (.iaload, 1) := by decide +kernel
theorem dX1_fewestMinutes_77 : decode cX1_fewestMinutes 77 = .ok (.iconst 1, 1) := by decide +kernel
theorem dX1_fewestMinutes_78 : decode cX1_fewestMinutes 78 = .ok (.if_icmp .ne 5, 3) := by decide +kernel
theorem dX1_fewestMinutes_81 : decode cX1_fewestMinutes 81 = .ok (.iload_n 2, 1) := by decide +kernel
theorem dX1_fewestMinutes_82 : decode cX1_fewestMinutes 82 = .ok (.ireturn, 1) := by decide +kernel
theorem dX1_fewestMinutes_83 : decode cX1_fewestMinutes 83 = .ok (.iinc 2 1, 3) := by decide +kernel
theorem dX1_fewestMinutes_86 : decode cX1_fewestMinutes 86 = .ok (.goto (-38), 3) := by decide +kernel
theorem dX1_fewestMinutes_89 : decode cX1_fewestMinutes 89 = .ok (.bipush (-4), 2) := by decide +kernel
theorem dX1_fewestMinutes_91 : decode cX1_fewestMinutes 91 = .ok (.ireturn, 1) := by decide +kernel
theorem dX1_stepAt_0 : decode cX1_stepAt 0 = .ok (.aload_n 0, 1) := by decide +kernel
theorem dX1_stepAt_1 : decode cX1_stepAt 1 = .ok (.getfield 25, 3) := by decide +kernel
theorem dX1_stepAt_4 : decode cX1_stepAt 4 = .ok (.iload_n 1, 1) := by decide +kernel
theorem dX1_stepAt_5 : decode cX1_stepAt 5 = .ok (.invokevirtual 46, 3) := by decide +kernel
theorem dX1_stepAt_8 : decode cX1_stepAt 8 = .ok (.istore_n 3, 1) := by decide +kernel
theorem dX1_stepAt_9 : decode cX1_stepAt 9 = .ok (.iload_n 3, 1) := by decide +kernel
theorem dX1_stepAt_10 : decode cX1_stepAt 10 = .ok (.ifCond .ne 4, 3) := by decide +kernel
theorem dX1_stepAt_13 : decode cX1_stepAt 13 = .ok (.return_, 1) := by decide +kernel
theorem dX1_stepAt_14 : decode cX1_stepAt 14 = .ok (.iload_n 2, 1) := by decide +kernel
theorem dX1_stepAt_15 : decode cX1_stepAt 15 = .ok (.istore 4, 2) := by decide +kernel
theorem dX1_stepAt_17 : decode cX1_stepAt 17 = .ok (.iload 4, 2) := by decide +kernel
theorem dX1_stepAt_19 : decode cX1_stepAt 19 = .ok (.ifCond .le 34, 3) := by decide +kernel
theorem dX1_stepAt_22 : decode cX1_stepAt 22 = .ok (.aload_n 0, 1) := by decide +kernel
theorem dX1_stepAt_23 : decode cX1_stepAt 23 = .ok (.getfield 21, 3) := by decide +kernel
theorem dX1_stepAt_26 : decode cX1_stepAt 26 = .ok (.iload 4, 2) := by decide +kernel
theorem dX1_stepAt_28 : decode cX1_stepAt 28 = .ok (.iaload, 1) := by decide +kernel
theorem dX1_stepAt_29 : decode cX1_stepAt 29 = .ok (.iconst 1, 1) := by decide +kernel
theorem dX1_stepAt_30 : decode cX1_stepAt 30 = .ok (.if_icmp .ne 17, 3) := by decide +kernel
theorem dX1_stepAt_33 : decode cX1_stepAt 33 = .ok (.iload 4, 2) := by decide +kernel
theorem dX1_stepAt_35 : decode cX1_stepAt 35 = .ok (.iload_n 3, 1) := by decide +kernel
theorem dX1_stepAt_36 : decode cX1_stepAt 36 = .ok (.iand, 1) := by decide +kernel
theorem dX1_stepAt_37 : decode cX1_stepAt 37 = .ok (.ifCond .eq 10, 3) := by decide +kernel
theorem dX1_stepAt_40 : decode cX1_stepAt 40 = .ok (.aload_n 0, 1) := by decide +kernel
theorem dX1_stepAt_41 : decode cX1_stepAt 41 = .ok (.iload 4, 2) := by decide +kernel
theorem dX1_stepAt_43 : decode cX1_stepAt 43 = .ok (.iload_n 3, 1) := by decide +kernel
theorem dX1_stepAt_44 : decode cX1_stepAt 44 = .ok (.invokevirtual 50, 3) := by decide +kernel
theorem dX1_stepAt_47 : decode cX1_stepAt 47 = .ok (.iinc 4 (-1), 3) := by decide +kernel
theorem dX1_stepAt_50 : decode cX1_stepAt 50 = .ok (.goto (-33), 3) := by decide +kernel
theorem dX1_stepAt_53 : decode cX1_stepAt 53 = .ok (.return_, 1) := by decide +kernel
theorem dX1_letOut_0 : decode cX1_letOut 0 = .ok (.iload_n 1, 1) := by decide +kernel
theorem dX1_letOut_1 : decode cX1_letOut 1 = .ok (.iload_n 2, 1) := by decide +kernel
theorem dX1_letOut_2 : decode cX1_letOut 2 = .ok (.iand, 1) := by decide +kernel
theorem dX1_letOut_3 : decode cX1_letOut 3 = .ok (.istore_n 3, 1) := by decide +kernel
theorem dX1_letOut_4 : decode cX1_letOut 4 = .ok (.iload_n 3, 1) := by decide +kernel
theorem dX1_letOut_5 : decode cX1_letOut 5 = .ok (.istore 4, 2) := by decide +kernel
theorem dX1_letOut_7 : decode cX1_letOut 7 = .ok (.iload 4, 2) := by decide +kernel
theorem dX1_letOut_9 : decode cX1_letOut 9 = .ok (.ifCond .le 54, 3) := by decide +kernel
theorem dX1_letOut_12 : decode cX1_letOut 12 = .ok (.iload_n 1, 1) := by decide +kernel
theorem dX1_letOut_13 : decode cX1_letOut 13 = .ok (.iload 4, 2) := by decide +kernel
theorem dX1_letOut_15 : decode cX1_letOut 15 = .ok (.iconst (-1), 1) := by decide +kernel
theorem dX1_letOut_16 : decode cX1_letOut 16 = .ok (.ixor, 1) := by decide +kernel
theorem dX1_letOut_17 : decode cX1_letOut 17 = .ok (.iand, 1) := by decide +kernel
theorem dX1_letOut_18 : decode cX1_letOut 18 = .ok (.istore 5, 2) := by decide +kernel
theorem dX1_letOut_20 : decode cX1_letOut 20 = .ok (.aload_n 0, 1) := by decide +kernel
theorem dX1_letOut_21 : decode cX1_letOut 21 = .ok (.getfield 21, 3) := by decide +kernel
theorem dX1_letOut_24 : decode cX1_letOut 24 = .ok (.iload 5, 2) := by decide +kernel
theorem dX1_letOut_26 : decode cX1_letOut 26 = .ok (.iaload, 1) := by decide +kernel
theorem dX1_letOut_27 : decode cX1_letOut 27 = .ok (.ifCond .ne 25, 3) := by decide +kernel
theorem dX1_letOut_30 : decode cX1_letOut 30 = .ok (.aload_n 0, 1) := by decide +kernel
theorem dX1_letOut_31 : decode cX1_letOut 31 = .ok (.getfield 21, 3) := by decide +kernel
theorem dX1_letOut_34 : decode cX1_letOut 34 = .ok (.iload 5, 2) := by decide +kernel
theorem dX1_letOut_36 : decode cX1_letOut 36 = .ok (.aload_n 0, 1) := by decide +kernel
theorem dX1_letOut_37 : decode cX1_letOut 37 = .ok (.iload 5, 2) := by decide +kernel
theorem dX1_letOut_39 : decode cX1_letOut 39 = .ok (.iload_n 2, 1) := by decide +kernel
theorem dX1_letOut_40 : decode cX1_letOut 40 = .ok (.invokevirtual 53, 3) := by decide +kernel
theorem dX1_letOut_43 : decode cX1_letOut 43 = .ok (.ifCond .eq 7, 3) := by decide +kernel
theorem dX1_letOut_46 : decode cX1_letOut 46 = .ok (.iconst 1, 1) := by decide +kernel
theorem dX1_letOut_47 : decode cX1_letOut 47 = .ok (.goto 4, 3) := by decide +kernel
theorem dX1_letOut_50 : decode cX1_letOut 50 = .ok (.iconst 2, 1) := by decide +kernel
theorem dX1_letOut_51 : decode cX1_letOut 51 = .ok (.iastore, 1) := by decide +kernel
theorem dX1_letOut_52 : decode cX1_letOut 52 = .ok (.iload 4, 2) := by decide +kernel
theorem dX1_letOut_54 : decode cX1_letOut 54 = .ok (.iconst 1, 1) := by decide +kernel
theorem dX1_letOut_55 : decode cX1_letOut 55 = .ok (.isub, 1) := by decide +kernel
theorem dX1_letOut_56 : decode cX1_letOut 56 = .ok (.iload_n 3, 1) := by decide +kernel
theorem dX1_letOut_57 : decode cX1_letOut 57 = .ok (.iand, 1) := by decide +kernel
theorem dX1_letOut_58 : decode cX1_letOut 58 = .ok (.istore 4, 2) := by decide +kernel
theorem dX1_letOut_60 : decode cX1_letOut 60 = .ok (.goto (-53), 3) := by decide +kernel
theorem dX1_letOut_63 : decode cX1_letOut 63 = .ok (.return_, 1) := by decide +kernel
theorem dX1_mayRide_0 : decode cX1_mayRide 0 = .ok (.aload_n 0, 1) := by decide +kernel
theorem dX1_mayRide_1 : decode cX1_mayRide 1 = .ok (.getfield 25, 3) := by decide +kernel
theorem dX1_mayRide_4 : decode cX1_mayRide 4 = .ok (.iload_n 1, 1) := by decide +kernel
theorem dX1_mayRide_5 : decode cX1_mayRide 5 = .ok (.iload_n 2, 1) := by decide +kernel
theorem dX1_mayRide_6 : decode cX1_mayRide 6 = .ok (.iand, 1) := by decide +kernel
theorem dX1_mayRide_7 : decode cX1_mayRide 7 = .ok (.invokevirtual 57, 3) := by decide +kernel
theorem dX1_mayRide_10 : decode cX1_mayRide 10 = .ok (.ifCond .ne 5, 3) := by decide +kernel
theorem dX1_mayRide_13 : decode cX1_mayRide 13 = .ok (.iconst 0, 1) := by decide +kernel
theorem dX1_mayRide_14 : decode cX1_mayRide 14 = .ok (.ireturn, 1) := by decide +kernel
theorem dX1_mayRide_15 : decode cX1_mayRide 15 = .ok (.aload_n 0, 1) := by decide +kernel
theorem dX1_mayRide_16 : decode cX1_mayRide 16 = .ok (.getfield 18, 3) := by decide +kernel
theorem dX1_mayRide_19 : decode cX1_mayRide 19 = .ok (.aload_n 0, 1) := by decide +kernel
theorem dX1_mayRide_20 : decode cX1_mayRide 20 = .ok (.getfield 12, 3) := by decide +kernel
theorem dX1_mayRide_23 : decode cX1_mayRide 23 = .ok (.invokevirtual 61, 3) := by decide +kernel
theorem dX1_mayRide_26 : decode cX1_mayRide 26 = .ok (.aload_n 0, 1) := by decide +kernel
theorem dX1_mayRide_27 : decode cX1_mayRide 27 = .ok (.getfield 25, 3) := by decide +kernel
theorem dX1_mayRide_30 : decode cX1_mayRide 30 = .ok (.iload_n 1, 1) := by decide +kernel
theorem dX1_mayRide_31 : decode cX1_mayRide 31 = .ok (.aload_n 0, 1) := by decide +kernel
theorem dX1_mayRide_32 : decode cX1_mayRide 32 = .ok (.getfield 18, 3) := by decide +kernel
theorem dX1_mayRide_35 : decode cX1_mayRide 35 = .ok (.invokevirtual 64, 3) := by decide +kernel
theorem dX1_mayRide_38 : decode cX1_mayRide 38 = .ok (.aload_n 0, 1) := by decide +kernel
theorem dX1_mayRide_39 : decode cX1_mayRide 39 = .ok (.getfield 18, 3) := by decide +kernel
theorem dX1_mayRide_42 : decode cX1_mayRide 42 = .ok (.aload_n 0, 1) := by decide +kernel
theorem dX1_mayRide_43 : decode cX1_mayRide 43 = .ok (.getfield 25, 3) := by decide +kernel
theorem dX1_mayRide_46 : decode cX1_mayRide 46 = .ok (.getfield 68, 3) := by decide +kernel
theorem dX1_mayRide_49 : decode cX1_mayRide 49 = .ok (.invokevirtual 72, 3) := by decide +kernel
theorem dX1_mayRide_52 : decode cX1_mayRide 52 = .ok (.ireturn, 1) := by decide +kernel
theorem dX2_init_0 : decode cX2_init 0 = .ok (.aload_n 0, 1) := by decide +kernel
theorem dX2_init_1 : decode cX2_init 1 = .ok (.invokespecial 3, 3) := by decide +kernel
theorem dX2_init_4 : decode cX2_init 4 = .ok (.return_, 1) := by decide +kernel
theorem dX2_clear_0 : decode cX2_clear 0 = .ok (.aload_n 0, 1) := by decide +kernel
theorem dX2_clear_1 : decode cX2_clear 1 = .ok (.iconst 0, 1) := by decide +kernel
theorem dX2_clear_2 : decode cX2_clear 2 = .ok (.putfield 9, 3) := by decide +kernel
theorem dX2_clear_5 : decode cX2_clear 5 = .ok (.aload_n 0, 1) := by decide +kernel
theorem dX2_clear_6 : decode cX2_clear 6 = .ok (.iconst 0, 1) := by decide +kernel
theorem dX2_clear_7 : decode cX2_clear 7 = .ok (.putfield 15, 3) := by decide +kernel
theorem dX2_clear_10 : decode cX2_clear 10 = .ok (.aload_n 0, 1) := by decide +kernel
theorem dX2_clear_11 : decode cX2_clear 11 = .ok (.iconst 0, 1) := by decide +kernel
theorem dX2_clear_12 : decode cX2_clear 12 = .ok (.putfield 18, 3) := by decide +kernel
theorem dX2_clear_15 : decode cX2_clear 15 = .ok (.aload_n 0, 1) := by decide +kernel
theorem dX2_clear_16 : decode cX2_clear 16 = .ok (.iconst 0, 1) := by decide +kernel
theorem dX2_clear_17 : decode cX2_clear 17 = .ok (.putfield 21, 3) := by decide +kernel
theorem dX2_clear_20 : decode cX2_clear 20 = .ok (.return_, 1) := by decide +kernel
theorem dX2_become_0 : decode cX2_become 0 = .ok (.aload_n 0, 1) := by decide +kernel
theorem dX2_become_1 : decode cX2_become 1 = .ok (.aload_n 1, 1) := by decide +kernel
theorem dX2_become_2 : decode cX2_become 2 = .ok (.getfield 9, 3) := by decide +kernel
theorem dX2_become_5 : decode cX2_become 5 = .ok (.putfield 9, 3) := by decide +kernel
theorem dX2_become_8 : decode cX2_become 8 = .ok (.aload_n 0, 1) := by decide +kernel
theorem dX2_become_9 : decode cX2_become 9 = .ok (.aload_n 1, 1) := by decide +kernel
theorem dX2_become_10 : decode cX2_become 10 = .ok (.getfield 15, 3) := by decide +kernel
theorem dX2_become_13 : decode cX2_become 13 = .ok (.putfield 15, 3) := by decide +kernel
theorem dX2_become_16 : decode cX2_become 16 = .ok (.aload_n 0, 1) := by decide +kernel
theorem dX2_become_17 : decode cX2_become 17 = .ok (.aload_n 1, 1) := by decide +kernel
theorem dX2_become_18 : decode cX2_become 18 = .ok (.getfield 18, 3) := by decide +kernel
theorem dX2_become_21 : decode cX2_become 21 = .ok (.putfield 18, 3) := by decide +kernel
theorem dX2_become_24 : decode cX2_become 24 = .ok (.aload_n 0, 1) := by decide +kernel
theorem dX2_become_25 : decode cX2_become 25 = .ok (.aload_n 1, 1) := by decide +kernel
theorem dX2_become_26 : decode cX2_become 26 = .ok (.getfield 21, 3) := by decide +kernel
theorem dX2_become_29 : decode cX2_become 29 = .ok (.putfield 21, 3) := by decide +kernel
theorem dX2_become_32 : decode cX2_become 32 = .ok (.return_, 1) := by decide +kernel
theorem dX2_hang_0 : decode cX2_hang 0 = .ok (.iload_n 1, 1) := by decide +kernel
theorem dX2_hang_1 : decode cX2_hang 1 = .ok (.ifCond .lt 9, 3) := by decide +kernel
theorem dX2_hang_4 : decode cX2_hang 4 = .ok (.iload_n 1, 1) := by decide +kernel
theorem dX2_hang_5 : decode cX2_hang 5 = .ok (.bipush 12, 2) := by decide +kernel
theorem dX2_hang_7 : decode cX2_hang 7 = .ok (.if_icmp .lt 4, 3) := by decide +kernel
theorem dX2_hang_10 : decode cX2_hang 10 = .ok (.return_, 1) := by decide +kernel
theorem dX2_hang_11 : decode cX2_hang 11 = .ok (.aload_n 0, 1) := by decide +kernel
theorem dX2_hang_12 : decode cX2_hang 12 = .ok (.dup, 1) := by decide +kernel
theorem dX2_hang_13 : decode cX2_hang 13 = .ok (.getfield 9, 3) := by decide +kernel
theorem dX2_hang_16 : decode cX2_hang 16 = .ok (.iload_n 2, 1) := by decide +kernel
theorem dX2_hang_17 : decode cX2_hang 17 = .ok (.getstatic 24, 3) := by decide +kernel
theorem dX2_hang_20 : decode cX2_hang 20 = .ok (.iload_n 1, 1) := by decide +kernel
theorem dX2_hang_21 : decode cX2_hang 21 = .ok (.iaload, 1) := by decide +kernel
theorem dX2_hang_22 : decode cX2_hang 22 = .ok (.imul, 1) := by decide +kernel
theorem dX2_hang_23 : decode cX2_hang 23 = .ok (.iadd, 1) := by decide +kernel
theorem dX2_hang_24 : decode cX2_hang 24 = .ok (.putfield 9, 3) := by decide +kernel
theorem dX2_hang_27 : decode cX2_hang 27 = .ok (.aload_n 0, 1) := by decide +kernel
theorem dX2_hang_28 : decode cX2_hang 28 = .ok (.dup, 1) := by decide +kernel
theorem dX2_hang_29 : decode cX2_hang 29 = .ok (.getfield 15, 3) := by decide +kernel
theorem dX2_hang_32 : decode cX2_hang 32 = .ok (.iload_n 2, 1) := by decide +kernel
theorem dX2_hang_33 : decode cX2_hang 33 = .ok (.getstatic 28, 3) := by decide +kernel
theorem dX2_hang_36 : decode cX2_hang 36 = .ok (.iload_n 1, 1) := by decide +kernel
theorem dX2_hang_37 : decode cX2_hang 37 = .ok (.iaload, 1) := by decide +kernel
theorem dX2_hang_38 : decode cX2_hang 38 = .ok (.imul, 1) := by decide +kernel
theorem dX2_hang_39 : decode cX2_hang 39 = .ok (.iadd, 1) := by decide +kernel
theorem dX2_hang_40 : decode cX2_hang 40 = .ok (.putfield 15, 3) := by decide +kernel
theorem dX2_hang_43 : decode cX2_hang 43 = .ok (.aload_n 0, 1) := by decide +kernel
theorem dX2_hang_44 : decode cX2_hang 44 = .ok (.dup, 1) := by decide +kernel
theorem dX2_hang_45 : decode cX2_hang 45 = .ok (.getfield 18, 3) := by decide +kernel
theorem dX2_hang_48 : decode cX2_hang 48 = .ok (.iload_n 2, 1) := by decide +kernel
theorem dX2_hang_49 : decode cX2_hang 49 = .ok (.getstatic 31, 3) := by decide +kernel
theorem dX2_hang_52 : decode cX2_hang 52 = .ok (.iload_n 1, 1) := by decide +kernel
theorem dX2_hang_53 : decode cX2_hang 53 = .ok (.iaload, 1) := by decide +kernel
theorem dX2_hang_54 : decode cX2_hang 54 = .ok (.imul, 1) := by decide +kernel
theorem dX2_hang_55 : decode cX2_hang 55 = .ok (.iadd, 1) := by decide +kernel
theorem dX2_hang_56 : decode cX2_hang 56 = .ok (.putfield 18, 3) := by decide +kernel
theorem dX2_hang_59 : decode cX2_hang 59 = .ok (.aload_n 0, 1) := by decide +kernel
theorem dX2_hang_60 : decode cX2_hang 60 = .ok (.dup, 1) := by decide +kernel
theorem dX2_hang_61 : decode cX2_hang 61 = .ok (.getfield 21, 3) := by decide +kernel
theorem dX2_hang_64 : decode cX2_hang 64 = .ok (.iload_n 2, 1) := by decide +kernel
theorem dX2_hang_65 : decode cX2_hang 65 = .ok (.getstatic 34, 3) := by decide +kernel
theorem dX2_hang_68 : decode cX2_hang 68 = .ok (.iload_n 1, 1) := by decide +kernel
theorem dX2_hang_69 : decode cX2_hang 69 = .ok (.iaload, 1) := by decide +kernel
theorem dX2_hang_70 : decode cX2_hang 70 = .ok (.imul, 1) := by decide +kernel
theorem dX2_hang_71 : decode cX2_hang 71 = .ok (.iadd, 1) := by decide +kernel
theorem dX2_hang_72 : decode cX2_hang 72 = .ok (.putfield 21, 3) := by decide +kernel
theorem dX2_hang_75 : decode cX2_hang 75 = .ok (.return_, 1) := by decide +kernel
theorem dX2_wholePart_0 : decode cX2_wholePart 0 = .ok (.aload_n 0, 1) := by decide +kernel
theorem dX2_wholePart_1 : decode cX2_wholePart 1 = .ok (.getfield 9, 3) := by decide +kernel
theorem dX2_wholePart_4 : decode cX2_wholePart 4 = .ok (.i2l, 1) := by decide +kernel
theorem dX2_wholePart_5 : decode cX2_wholePart 5 = .ok (.aload_n 0, 1) := by decide +kernel
theorem dX2_wholePart_6 : decode cX2_wholePart 6 = .ok (.getfield 9, 3) := by decide +kernel
theorem dX2_wholePart_9 : decode cX2_wholePart 9 = .ok (.i2l, 1) := by decide +kernel
theorem dX2_wholePart_10 : decode cX2_wholePart 10 = .ok (.lmul, 1) := by decide +kernel
theorem dX2_wholePart_11 : decode cX2_wholePart 11 = .ok (.ldc2_w 37, 3) := by decide +kernel
theorem dX2_wholePart_14 : decode cX2_wholePart 14 = .ok (.aload_n 0, 1) := by decide +kernel
theorem dX2_wholePart_15 : decode cX2_wholePart 15 = .ok (.getfield 15, 3) := by decide +kernel
theorem dX2_wholePart_18 : decode cX2_wholePart 18 = .ok (.i2l, 1) := by decide +kernel
theorem dX2_wholePart_19 : decode cX2_wholePart 19 = .ok (.lmul, 1) := by decide +kernel
theorem dX2_wholePart_20 : decode cX2_wholePart 20 = .ok (.aload_n 0, 1) := by decide +kernel
theorem dX2_wholePart_21 : decode cX2_wholePart 21 = .ok (.getfield 15, 3) := by decide +kernel
theorem dX2_wholePart_24 : decode cX2_wholePart 24 = .ok (.i2l, 1) := by decide +kernel
theorem dX2_wholePart_25 : decode cX2_wholePart 25 = .ok (.lmul, 1) := by decide +kernel
theorem dX2_wholePart_26 : decode cX2_wholePart 26 = .ok (.ladd, 1) := by decide +kernel
theorem dX2_wholePart_27 : decode cX2_wholePart 27 = .ok (.aload_n 0, 1) := by decide +kernel
theorem dX2_wholePart_28 : decode cX2_wholePart 28 = .ok (.getfield 18, 3) := by decide +kernel
theorem dX2_wholePart_31 : decode cX2_wholePart 31 = .ok (.i2l, 1) := by decide +kernel
theorem dX2_wholePart_32 : decode cX2_wholePart 32 = .ok (.aload_n 0, 1) := by decide +kernel
theorem dX2_wholePart_33 : decode cX2_wholePart 33 = .ok (.getfield 18, 3) := by decide +kernel
theorem dX2_wholePart_36 : decode cX2_wholePart 36 = .ok (.i2l, 1) := by decide +kernel
theorem dX2_wholePart_37 : decode cX2_wholePart 37 = .ok (.lmul, 1) := by decide +kernel
theorem dX2_wholePart_38 : decode cX2_wholePart 38 = .ok (.ladd, 1) := by decide +kernel
theorem dX2_wholePart_39 : decode cX2_wholePart 39 = .ok (.ldc2_w 37, 3) := by decide +kernel
theorem dX2_wholePart_42 : decode cX2_wholePart 42 = .ok (.aload_n 0, 1) := by decide +kernel
theorem dX2_wholePart_43 : decode cX2_wholePart 43 = .ok (.getfield 21, 3) := by decide +kernel
theorem dX2_wholePart_46 : decode cX2_wholePart 46 = .ok (.i2l, 1) := by decide +kernel
theorem dX2_wholePart_47 : decode cX2_wholePart 47 = .ok (.lmul, 1) := by decide +kernel
theorem dX2_wholePart_48 : decode cX2_wholePart 48 = .ok (.aload_n 0, 1) := by decide +kernel
theorem dX2_wholePart_49 : decode cX2_wholePart 49 = .ok (.getfield 21, 3) := by decide +kernel
theorem dX2_wholePart_52 : decode cX2_wholePart 52 = .ok (.i2l, 1) := by decide +kernel
theorem dX2_wholePart_53 : decode cX2_wholePart 53 = .ok (.lmul, 1) := by decide +kernel
theorem dX2_wholePart_54 : decode cX2_wholePart 54 = .ok (.ladd, 1) := by decide +kernel
theorem dX2_wholePart_55 : decode cX2_wholePart 55 = .ok (.lreturn, 1) := by decide +kernel
theorem dX2_rootPart_0 : decode cX2_rootPart 0 = .ok (.ldc2_w 39, 3) := by decide +kernel
theorem dX2_rootPart_3 : decode cX2_rootPart 3 = .ok (.aload_n 0, 1) := by decide +kernel
theorem dX2_rootPart_4 : decode cX2_rootPart 4 = .ok (.getfield 9, 3) := by decide +kernel
theorem dX2_rootPart_7 : decode cX2_rootPart 7 = .ok (.i2l, 1) := by decide +kernel
theorem dX2_rootPart_8 : decode cX2_rootPart 8 = .ok (.aload_n 0, 1) := by decide +kernel
theorem dX2_rootPart_9 : decode cX2_rootPart 9 = .ok (.getfield 15, 3) := by decide +kernel
theorem dX2_rootPart_12 : decode cX2_rootPart 12 = .ok (.i2l, 1) := by decide +kernel
theorem dX2_rootPart_13 : decode cX2_rootPart 13 = .ok (.lmul, 1) := by decide +kernel
theorem dX2_rootPart_14 : decode cX2_rootPart 14 = .ok (.aload_n 0, 1) := by decide +kernel
theorem dX2_rootPart_15 : decode cX2_rootPart 15 = .ok (.getfield 18, 3) := by decide +kernel
theorem dX2_rootPart_18 : decode cX2_rootPart 18 = .ok (.i2l, 1) := by decide +kernel
theorem dX2_rootPart_19 : decode cX2_rootPart 19 = .ok (.aload_n 0, 1) := by decide +kernel
theorem dX2_rootPart_20 : decode cX2_rootPart 20 = .ok (.getfield 21, 3) := by decide +kernel
theorem dX2_rootPart_23 : decode cX2_rootPart 23 = .ok (.i2l, 1) := by decide +kernel
theorem dX2_rootPart_24 : decode cX2_rootPart 24 = .ok (.lmul, 1) := by decide +kernel
theorem dX2_rootPart_25 : decode cX2_rootPart 25 = .ok (.ladd, 1) := by decide +kernel
theorem dX2_rootPart_26 : decode cX2_rootPart 26 = .ok (.lmul, 1) := by decide +kernel
theorem dX2_rootPart_27 : decode cX2_rootPart 27 = .ok (.lreturn, 1) := by decide +kernel
theorem dX2_isEvenWithin_0 : decode cX2_isEvenWithin 0 = .ok (.aload_n 0, 1) := by decide +kernel
theorem dX2_isEvenWithin_1 : decode cX2_isEvenWithin 1 = .ok (.invokevirtual 41, 3) := by decide +kernel
theorem dX2_isEvenWithin_4 : decode cX2_isEvenWithin 4 = .ok (.ldc2_w 45, 3) := by decide +kernel
theorem dX2_isEvenWithin_7 : decode cX2_isEvenWithin 7 = .ok (.iload_n 1, 1) := by decide +kernel
theorem dX2_isEvenWithin_8 : decode cX2_isEvenWithin 8 = .ok (.i2l, 1) := by decide +kernel
theorem dX2_isEvenWithin_9 : decode cX2_isEvenWithin 9 = .ok (.lmul, 1) := by decide +kernel
theorem dX2_isEvenWithin_10 : decode cX2_isEvenWithin 10 = .ok (.iload_n 1, 1) := by decide +kernel
theorem dX2_isEvenWithin_11 : decode cX2_isEvenWithin 11 = .ok (.i2l, 1) := by decide +kernel
theorem dX2_isEvenWithin_12 : decode cX2_isEvenWithin 12 = .ok (.lmul, 1) := by decide +kernel
theorem dX2_isEvenWithin_13 : decode cX2_isEvenWithin 13 = .ok (.lsub, 1) := by decide +kernel
theorem dX2_isEvenWithin_14 : decode cX2_isEvenWithin 14 = .ok (.aload_n 0, 1) := by decide +kernel
theorem dX2_isEvenWithin_15 : decode cX2_isEvenWithin 15 = .ok (.invokevirtual 47, 3) := by decide +kernel
theorem dX2_isEvenWithin_18 : decode cX2_isEvenWithin 18 = .ok (.invokestatic 50, 3) := by decide +kernel
theorem dX2_isEvenWithin_21 : decode cX2_isEvenWithin 21 = .ok (.ifCond .ne 7, 3) := by decide +kernel
theorem dX2_isEvenWithin_24 : decode cX2_isEvenWithin 24 = .ok (.iconst 1, 1) := by decide +kernel
theorem dX2_isEvenWithin_25 : decode cX2_isEvenWithin 25 = .ok (.goto 4, 3) := by decide +kernel
theorem dX2_isEvenWithin_28 : decode cX2_isEvenWithin 28 = .ok (.iconst 0, 1) := by decide +kernel
theorem dX2_isEvenWithin_29 : decode cX2_isEvenWithin 29 = .ok (.ireturn, 1) := by decide +kernel
theorem dX2_isWorseThan_0 : decode cX2_isWorseThan 0 = .ok (.aload_n 0, 1) := by decide +kernel
theorem dX2_isWorseThan_1 : decode cX2_isWorseThan 1 = .ok (.invokevirtual 41, 3) := by decide +kernel
theorem dX2_isWorseThan_4 : decode cX2_isWorseThan 4 = .ok (.aload_n 1, 1) := by decide +kernel
theorem dX2_isWorseThan_5 : decode cX2_isWorseThan 5 = .ok (.invokevirtual 41, 3) := by decide +kernel
theorem dX2_isWorseThan_8 : decode cX2_isWorseThan 8 = .ok (.lsub, 1) := by decide +kernel
theorem dX2_isWorseThan_9 : decode cX2_isWorseThan 9 = .ok (.aload_n 0, 1) := by decide +kernel
theorem dX2_isWorseThan_10 : decode cX2_isWorseThan 10 = .ok (.invokevirtual 47, 3) := by decide +kernel
theorem dX2_isWorseThan_13 : decode cX2_isWorseThan 13 = .ok (.aload_n 1, 1) := by decide +kernel
theorem dX2_isWorseThan_14 : decode cX2_isWorseThan 14 = .ok (.invokevirtual 47, 3) := by decide +kernel
theorem dX2_isWorseThan_17 : decode cX2_isWorseThan 17 = .ok (.lsub, 1) := by decide +kernel
theorem dX2_isWorseThan_18 : decode cX2_isWorseThan 18 = .ok (.invokestatic 50, 3) := by decide +kernel
theorem dX2_isWorseThan_21 : decode cX2_isWorseThan 21 = .ok (.ireturn, 1) := by decide +kernel
theorem dX2_isAboveZero_0 : decode cX2_isAboveZero 0 = .ok (.lload_n 0, 1) := by decide +kernel
theorem dX2_isAboveZero_1 : decode cX2_isAboveZero 1 = .ok (.lconst 0, 1) := by decide +kernel
theorem dX2_isAboveZero_2 : decode cX2_isAboveZero 2 = .ok (.lcmp, 1) := by decide +kernel
theorem dX2_isAboveZero_3 : decode cX2_isAboveZero 3 = .ok (.ifCond .lt 27, 3) := by decide +kernel
theorem dX2_isAboveZero_6 : decode cX2_isAboveZero 6 = .ok (.lload_n 2, 1) := by decide +kernel
theorem dX2_isAboveZero_7 : decode cX2_isAboveZero 7 = .ok (.lconst 0, 1) := by decide +kernel
theorem dX2_isAboveZero_8 : decode cX2_isAboveZero 8 = .ok (.lcmp, 1) := by decide +kernel
theorem dX2_isAboveZero_9 : decode cX2_isAboveZero 9 = .ok (.ifCond .lt 21, 3) := by decide +kernel
theorem dX2_isAboveZero_12 : decode cX2_isAboveZero 12 = .ok (.lload_n 0, 1) := by decide +kernel
theorem dX2_isAboveZero_13 : decode cX2_isAboveZero 13 = .ok (.lconst 0, 1) := by decide +kernel
theorem dX2_isAboveZero_14 : decode cX2_isAboveZero 14 = .ok (.lcmp, 1) := by decide +kernel
theorem dX2_isAboveZero_15 : decode cX2_isAboveZero 15 = .ok (.ifCond .gt 9, 3) := by decide +kernel
theorem dX2_isAboveZero_18 : decode cX2_isAboveZero 18 = .ok (.lload_n 2, 1) := by decide +kernel
theorem dX2_isAboveZero_19 : decode cX2_isAboveZero 19 = .ok (.lconst 0, 1) := by decide +kernel
theorem dX2_isAboveZero_20 : decode cX2_isAboveZero 20 = .ok (.lcmp, 1) := by decide +kernel
theorem dX2_isAboveZero_21 : decode cX2_isAboveZero 21 = .ok (.ifCond .le 7, 3) := by decide +kernel
theorem dX2_isAboveZero_24 : decode cX2_isAboveZero 24 = .ok (.iconst 1, 1) := by decide +kernel
theorem dX2_isAboveZero_25 : decode cX2_isAboveZero 25 = .ok (.goto 4, 3) := by decide +kernel
theorem dX2_isAboveZero_28 : decode cX2_isAboveZero 28 = .ok (.iconst 0, 1) := by decide +kernel
theorem dX2_isAboveZero_29 : decode cX2_isAboveZero 29 = .ok (.ireturn, 1) := by decide +kernel
theorem dX2_isAboveZero_30 : decode cX2_isAboveZero 30 = .ok (.lload_n 0, 1) := by decide +kernel
theorem dX2_isAboveZero_31 : decode cX2_isAboveZero 31 = .ok (.lconst 0, 1) := by decide +kernel
theorem dX2_isAboveZero_32 : decode cX2_isAboveZero 32 = .ok (.lcmp, 1) := by decide +kernel
theorem dX2_isAboveZero_33 : decode cX2_isAboveZero 33 = .ok (.ifCond .gt 11, 3) := by decide +kernel
theorem dX2_isAboveZero_36 : decode cX2_isAboveZero 36 = .ok (.lload_n 2, 1) := by decide +kernel
theorem dX2_isAboveZero_37 : decode cX2_isAboveZero 37 = .ok (.lconst 0, 1) := by decide +kernel
theorem dX2_isAboveZero_38 : decode cX2_isAboveZero 38 = .ok (.lcmp, 1) := by decide +kernel
theorem dX2_isAboveZero_39 : decode cX2_isAboveZero 39 = .ok (.ifCond .gt 5, 3) := by decide +kernel
theorem dX2_isAboveZero_42 : decode cX2_isAboveZero 42 = .ok (.iconst 0, 1) := by decide +kernel
theorem dX2_isAboveZero_43 : decode cX2_isAboveZero 43 = .ok (.ireturn, 1) := by decide +kernel
theorem dX2_isAboveZero_44 : decode cX2_isAboveZero 44 = .ok (.lload_n 0, 1) := by decide +kernel
theorem dX2_isAboveZero_45 : decode cX2_isAboveZero 45 = .ok (.lconst 0, 1) := by decide +kernel
theorem dX2_isAboveZero_46 : decode cX2_isAboveZero 46 = .ok (.lcmp, 1) := by decide +kernel
theorem dX2_isAboveZero_47 : decode cX2_isAboveZero 47 = .ok (.ifCond .le 25, 3) := by decide +kernel
theorem dX2_isAboveZero_50 : decode cX2_isAboveZero 50 = .ok (.lload_n 0, 1) := by decide +kernel
theorem dX2_isAboveZero_51 : decode cX2_isAboveZero 51 = .ok (.lload_n 0, 1) := by decide +kernel
theorem dX2_isAboveZero_52 : decode cX2_isAboveZero 52 = .ok (.lmul, 1) := by decide +kernel
theorem dX2_isAboveZero_53 : decode cX2_isAboveZero 53 = .ok (.ldc2_w 37, 3) := by decide +kernel
theorem dX2_isAboveZero_56 : decode cX2_isAboveZero 56 = .ok (.lload_n 2, 1) := by decide +kernel
theorem dX2_isAboveZero_57 : decode cX2_isAboveZero 57 = .ok (.lmul, 1) := by decide +kernel
theorem dX2_isAboveZero_58 : decode cX2_isAboveZero 58 = .ok (.lload_n 2, 1) := by decide +kernel
theorem dX2_isAboveZero_59 : decode cX2_isAboveZero 59 = .ok (.lmul, 1) := by decide +kernel
theorem dX2_isAboveZero_60 : decode cX2_isAboveZero 60 = .ok (.lcmp, 1) := by decide +kernel
theorem dX2_isAboveZero_61 : decode cX2_isAboveZero 61 = .ok (.ifCond .le 7, 3) := by decide +kernel
theorem dX2_isAboveZero_64 : decode cX2_isAboveZero 64 = .ok (.iconst 1, 1) := by decide +kernel
theorem dX2_isAboveZero_65 : decode cX2_isAboveZero 65 = .ok (.goto 26, 3) := by decide +kernel
theorem dX2_isAboveZero_68 : decode cX2_isAboveZero 68 = .ok (.iconst 0, 1) := by decide +kernel
theorem dX2_isAboveZero_69 : decode cX2_isAboveZero 69 = .ok (.goto 22, 3) := by decide +kernel
theorem dX2_isAboveZero_72 : decode cX2_isAboveZero 72 = .ok (.ldc2_w 37, 3) := by decide +kernel
theorem dX2_isAboveZero_75 : decode cX2_isAboveZero 75 = .ok (.lload_n 2, 1) := by decide +kernel
theorem dX2_isAboveZero_76 : decode cX2_isAboveZero 76 = .ok (.lmul, 1) := by decide +kernel
theorem dX2_isAboveZero_77 : decode cX2_isAboveZero 77 = .ok (.lload_n 2, 1) := by decide +kernel
theorem dX2_isAboveZero_78 : decode cX2_isAboveZero 78 = .ok (.lmul, 1) := by decide +kernel
theorem dX2_isAboveZero_79 : decode cX2_isAboveZero 79 = .ok (.lload_n 0, 1) := by decide +kernel
theorem dX2_isAboveZero_80 : decode cX2_isAboveZero 80 = .ok (.lload_n 0, 1) := by decide +kernel
theorem dX2_isAboveZero_81 : decode cX2_isAboveZero 81 = .ok (.lmul, 1) := by decide +kernel
theorem dX2_isAboveZero_82 : decode cX2_isAboveZero 82 = .ok (.lcmp, 1) := by decide +kernel
theorem dX2_isAboveZero_83 : decode cX2_isAboveZero 83 = .ok (.ifCond .le 7, 3) := by decide +kernel
theorem dX2_isAboveZero_86 : decode cX2_isAboveZero 86 = .ok (.iconst 1, 1) := by decide +kernel
theorem dX2_isAboveZero_87 : decode cX2_isAboveZero 87 = .ok (.goto 4, 3) := by decide +kernel
theorem dX2_isAboveZero_90 : decode cX2_isAboveZero 90 = .ok (.iconst 0, 1) := by decide +kernel
theorem dX2_isAboveZero_91 : decode cX2_isAboveZero 91 = .ok (.ireturn, 1) := by decide +kernel
theorem dX3_init_0 : decode cX3_init 0 = .ok (.aload_n 0, 1) := by decide +kernel
theorem dX3_init_1 : decode cX3_init 1 = .ok (.invokespecial 3, 3) := by decide +kernel
theorem dX3_init_4 : decode cX3_init 4 = .ok (.aload_n 0, 1) := by decide +kernel
theorem dX3_init_5 : decode cX3_init 5 = .ok (.bipush 24, 2) := by decide +kernel
theorem dX3_init_7 : decode cX3_init 7 = .ok (.newarray .int, 2) := by decide +kernel
theorem dX3_init_9 : decode cX3_init 9 = .ok (.putfield 9, 3) := by decide +kernel
theorem dX3_init_12 : decode cX3_init 12 = .ok (.aload_n 0, 1) := by decide +kernel
theorem dX3_init_13 : decode cX3_init 13 = .ok (.iconst 0, 1) := by decide +kernel
theorem dX3_init_14 : decode cX3_init 14 = .ok (.putfield 15, 3) := by decide +kernel
theorem dX3_init_17 : decode cX3_init 17 = .ok (.aload_n 0, 1) := by decide +kernel
theorem dX3_init_18 : decode cX3_init 18 = .ok (.iconst 0, 1) := by decide +kernel
theorem dX3_init_19 : decode cX3_init 19 = .ok (.putfield 19, 3) := by decide +kernel
theorem dX3_init_22 : decode cX3_init 22 = .ok (.aload_n 0, 1) := by decide +kernel
theorem dX3_init_23 : decode cX3_init 23 = .ok (.iconst 0, 1) := by decide +kernel
theorem dX3_init_24 : decode cX3_init 24 = .ok (.putfield 23, 3) := by decide +kernel
theorem dX3_init_27 : decode cX3_init 27 = .ok (.return_, 1) := by decide +kernel
theorem dX3_renew_0 : decode cX3_renew 0 = .ok (.iconst 0, 1) := by decide +kernel
theorem dX3_renew_1 : decode cX3_renew 1 = .ok (.istore_n 3, 1) := by decide +kernel
theorem dX3_renew_2 : decode cX3_renew 2 = .ok (.iload_n 3, 1) := by decide +kernel
theorem dX3_renew_3 : decode cX3_renew 3 = .ok (.bipush 24, 2) := by decide +kernel
theorem dX3_renew_5 : decode cX3_renew 5 = .ok (.if_icmp .ge 16, 3) := by decide +kernel
theorem dX3_renew_8 : decode cX3_renew 8 = .ok (.aload_n 0, 1) := by decide +kernel
theorem dX3_renew_9 : decode cX3_renew 9 = .ok (.getfield 9, 3) := by decide +kernel
theorem dX3_renew_12 : decode cX3_renew 12 = .ok (.iload_n 3, 1) := by decide +kernel
theorem dX3_renew_13 : decode cX3_renew 13 = .ok (.iconst 0, 1) := by decide +kernel
theorem dX3_renew_14 : decode cX3_renew 14 = .ok (.iastore, 1) := by decide +kernel
theorem dX3_renew_15 : decode cX3_renew 15 = .ok (.iinc 3 1, 3) := by decide +kernel
theorem dX3_renew_18 : decode cX3_renew 18 = .ok (.goto (-16), 3) := by decide +kernel
theorem dX3_renew_21 : decode cX3_renew 21 = .ok (.aload_n 0, 1) := by decide +kernel
theorem dX3_renew_22 : decode cX3_renew 22 = .ok (.iconst 1, 1) := by decide +kernel
theorem dX3_renew_23 : decode cX3_renew 23 = .ok (.putfield 15, 3) := by decide +kernel
theorem dX3_renew_26 : decode cX3_renew 26 = .ok (.aload_n 0, 1) := by decide +kernel
theorem dX3_renew_27 : decode cX3_renew 27 = .ok (.iload_n 1, 1) := by decide +kernel
theorem dX3_renew_28 : decode cX3_renew 28 = .ok (.putfield 19, 3) := by decide +kernel
theorem dX3_renew_31 : decode cX3_renew 31 = .ok (.aload_n 0, 1) := by decide +kernel
theorem dX3_renew_32 : decode cX3_renew 32 = .ok (.iload_n 2, 1) := by decide +kernel
theorem dX3_renew_33 : decode cX3_renew 33 = .ok (.putfield 23, 3) := by decide +kernel
theorem dX3_renew_36 : decode cX3_renew 36 = .ok (.return_, 1) := by decide +kernel
theorem dX3_hasPart_0 : decode cX3_hasPart 0 = .ok (.iload_n 1, 1) := by decide +kernel
theorem dX3_hasPart_1 : decode cX3_hasPart 1 = .ok (.ifCond .lt 29, 3) := by decide +kernel
theorem dX3_hasPart_4 : decode cX3_hasPart 4 = .ok (.iload_n 2, 1) := by decide +kernel
theorem dX3_hasPart_5 : decode cX3_hasPart 5 = .ok (.ifCond .lt 25, 3) := by decide +kernel
theorem dX3_hasPart_8 : decode cX3_hasPart 8 = .ok (.iload_n 1, 1) := by decide +kernel
theorem dX3_hasPart_9 : decode cX3_hasPart 9 = .ok (.aload_n 0, 1) := by decide +kernel
theorem dX3_hasPart_10 : decode cX3_hasPart 10 = .ok (.getfield 23, 3) := by decide +kernel
theorem dX3_hasPart_13 : decode cX3_hasPart 13 = .ok (.if_icmp .gt 17, 3) := by decide +kernel
theorem dX3_hasPart_16 : decode cX3_hasPart 16 = .ok (.iload_n 2, 1) := by decide +kernel
theorem dX3_hasPart_17 : decode cX3_hasPart 17 = .ok (.aload_n 0, 1) := by decide +kernel
theorem dX3_hasPart_18 : decode cX3_hasPart 18 = .ok (.getfield 23, 3) := by decide +kernel
theorem dX3_hasPart_21 : decode cX3_hasPart 21 = .ok (.iload_n 1, 1) := by decide +kernel
theorem dX3_hasPart_22 : decode cX3_hasPart 22 = .ok (.isub, 1) := by decide +kernel
theorem dX3_hasPart_23 : decode cX3_hasPart 23 = .ok (.if_icmp .gt 7, 3) := by decide +kernel
theorem dX3_hasPart_26 : decode cX3_hasPart 26 = .ok (.iconst 1, 1) := by decide +kernel
theorem dX3_hasPart_27 : decode cX3_hasPart 27 = .ok (.goto 4, 3) := by decide +kernel
theorem dX3_hasPart_30 : decode cX3_hasPart 30 = .ok (.iconst 0, 1) := by decide +kernel
theorem dX3_hasPart_31 : decode cX3_hasPart 31 = .ok (.ireturn, 1) := by decide +kernel
theorem dX3_write_0 : decode cX3_write 0 = .ok (.iload_n 1, 1) := by decide +kernel
theorem dX3_write_1 : decode cX3_write 1 = .ok (.ifCond .lt 11, 3) := by decide +kernel
theorem dX3_write_4 : decode cX3_write 4 = .ok (.iload_n 1, 1) := by decide +kernel
theorem dX3_write_5 : decode cX3_write 5 = .ok (.aload_n 0, 1) := by decide +kernel
theorem dX3_write_6 : decode cX3_write 6 = .ok (.getfield 23, 3) := by decide +kernel
theorem dX3_write_9 : decode cX3_write 9 = .ok (.if_icmp .lt 4, 3) := by decide +kernel
theorem dX3_write_12 : decode cX3_write 12 = .ok (.return_, 1) := by decide +kernel
theorem dX3_write_13 : decode cX3_write 13 = .ok (.aload_n 0, 1) := by decide +kernel
theorem dX3_write_14 : decode cX3_write 14 = .ok (.getfield 19, 3) := by decide +kernel
theorem dX3_write_17 : decode cX3_write 17 = .ok (.ifCond .ne 14, 3) := by decide +kernel
theorem dX3_write_20 : decode cX3_write 20 = .ok (.aload_n 0, 1) := by decide +kernel
theorem dX3_write_21 : decode cX3_write 21 = .ok (.getfield 9, 3) := by decide +kernel
theorem dX3_write_24 : decode cX3_write 24 = .ok (.iload_n 1, 1) := by decide +kernel
theorem dX3_write_25 : decode cX3_write 25 = .ok (.iload_n 2, 1) := by decide +kernel
theorem dX3_write_26 : decode cX3_write 26 = .ok (.i2b, 1) := by decide +kernel
theorem dX3_write_27 : decode cX3_write 27 = .ok (.iastore, 1) := by decide +kernel
theorem dX3_write_28 : decode cX3_write 28 = .ok (.goto 29, 3) := by decide +kernel
theorem dX3_write_31 : decode cX3_write 31 = .ok (.aload_n 0, 1) := by decide +kernel
theorem dX3_write_32 : decode cX3_write 32 = .ok (.getfield 19, 3) := by decide +kernel
theorem dX3_write_35 : decode cX3_write 35 = .ok (.iconst 1, 1) := by decide +kernel
theorem dX3_write_36 : decode cX3_write 36 = .ok (.if_icmp .ne 14, 3) := by decide +kernel
theorem dX3_write_39 : decode cX3_write 39 = .ok (.aload_n 0, 1) := by decide +kernel
theorem dX3_write_40 : decode cX3_write 40 = .ok (.getfield 9, 3) := by decide +kernel
theorem dX3_write_43 : decode cX3_write 43 = .ok (.iload_n 1, 1) := by decide +kernel
theorem dX3_write_44 : decode cX3_write 44 = .ok (.iload_n 2, 1) := by decide +kernel
theorem dX3_write_45 : decode cX3_write 45 = .ok (.i2s, 1) := by decide +kernel
theorem dX3_write_46 : decode cX3_write 46 = .ok (.iastore, 1) := by decide +kernel
theorem dX3_write_47 : decode cX3_write 47 = .ok (.goto 10, 3) := by decide +kernel
theorem dX3_write_50 : decode cX3_write 50 = .ok (.aload_n 0, 1) := by decide +kernel
theorem dX3_write_51 : decode cX3_write 51 = .ok (.getfield 9, 3) := by decide +kernel
theorem dX3_write_54 : decode cX3_write 54 = .ok (.iload_n 1, 1) := by decide +kernel
theorem dX3_write_55 : decode cX3_write 55 = .ok (.iload_n 2, 1) := by decide +kernel
theorem dX3_write_56 : decode cX3_write 56 = .ok (.iastore, 1) := by decide +kernel
theorem dX3_write_57 : decode cX3_write 57 = .ok (.return_, 1) := by decide +kernel
theorem dX4_init_0 : decode cX4_init 0 = .ok (.aload_n 0, 1) := by decide +kernel
theorem dX4_init_1 : decode cX4_init 1 = .ok (.invokespecial 3, 3) := by decide +kernel
theorem dX4_init_4 : decode cX4_init 4 = .ok (.aload_n 0, 1) := by decide +kernel
theorem dX4_init_5 : decode cX4_init 5 = .ok (.new 9, 3) := by decide +kernel
theorem dX4_init_8 : decode cX4_init 8 = .ok (.dup, 1) := by decide +kernel
theorem dX4_init_9 : decode cX4_init 9 = .ok (.invokespecial 11, 3) := by decide +kernel
theorem dX4_init_12 : decode cX4_init 12 = .ok (.putfield 12, 3) := by decide +kernel
theorem dX4_init_15 : decode cX4_init 15 = .ok (.aload_n 0, 1) := by decide +kernel
theorem dX4_init_16 : decode cX4_init 16 = .ok (.new 9, 3) := by decide +kernel
theorem dX4_init_19 : decode cX4_init 19 = .ok (.dup, 1) := by decide +kernel
theorem dX4_init_20 : decode cX4_init 20 = .ok (.invokespecial 11, 3) := by decide +kernel
theorem dX4_init_23 : decode cX4_init 23 = .ok (.putfield 18, 3) := by decide +kernel
theorem dX4_init_26 : decode cX4_init 26 = .ok (.aload_n 0, 1) := by decide +kernel
theorem dX4_init_27 : decode cX4_init 27 = .ok (.bipush 10, 2) := by decide +kernel
theorem dX4_init_29 : decode cX4_init 29 = .ok (.newarray .int, 2) := by decide +kernel
theorem dX4_init_31 : decode cX4_init 31 = .ok (.putfield 21, 3) := by decide +kernel
theorem dX4_init_34 : decode cX4_init 34 = .ok (.aload_n 0, 1) := by decide +kernel
theorem dX4_init_35 : decode cX4_init 35 = .ok (.new 9, 3) := by decide +kernel
theorem dX4_init_38 : decode cX4_init 38 = .ok (.dup, 1) := by decide +kernel
theorem dX4_init_39 : decode cX4_init 39 = .ok (.invokespecial 11, 3) := by decide +kernel
theorem dX4_init_42 : decode cX4_init 42 = .ok (.putfield 25, 3) := by decide +kernel
theorem dX4_init_45 : decode cX4_init 45 = .ok (.aload_n 0, 1) := by decide +kernel
theorem dX4_init_46 : decode cX4_init 46 = .ok (.aload_n 1, 1) := by decide +kernel
theorem dX4_init_47 : decode cX4_init 47 = .ok (.putfield 28, 3) := by decide +kernel
theorem dX4_init_50 : decode cX4_init 50 = .ok (.return_, 1) := by decide +kernel
theorem dX4_findWorst_0 : decode cX4_findWorst 0 = .ok (.aload_n 0, 1) := by decide +kernel
theorem dX4_findWorst_1 : decode cX4_findWorst 1 = .ok (.invokevirtual 32, 3) := by decide +kernel
theorem dX4_findWorst_4 : decode cX4_findWorst 4 = .ok (.istore_n 2, 1) := by decide +kernel
theorem dX4_findWorst_5 : decode cX4_findWorst 5 = .ok (.aload_n 0, 1) := by decide +kernel
theorem dX4_findWorst_6 : decode cX4_findWorst 6 = .ok (.getfield 28, 3) := by decide +kernel
theorem dX4_findWorst_9 : decode cX4_findWorst 9 = .ok (.aload_n 0, 1) := by decide +kernel
theorem dX4_findWorst_10 : decode cX4_findWorst 10 = .ok (.getfield 25, 3) := by decide +kernel
theorem dX4_findWorst_13 : decode cX4_findWorst 13 = .ok (.invokevirtual 36, 3) := by decide +kernel
theorem dX4_findWorst_16 : decode cX4_findWorst 16 = .ok (.aload_n 0, 1) := by decide +kernel
theorem dX4_findWorst_17 : decode cX4_findWorst 17 = .ok (.getfield 28, 3) := by decide +kernel
theorem dX4_findWorst_20 : decode cX4_findWorst 20 = .ok (.aload_n 0, 1) := by decide +kernel
theorem dX4_findWorst_21 : decode cX4_findWorst 21 = .ok (.getfield 12, 3) := by decide +kernel
theorem dX4_findWorst_24 : decode cX4_findWorst 24 = .ok (.invokevirtual 42, 3) := by decide +kernel
theorem dX4_findWorst_27 : decode cX4_findWorst 27 = .ok (.iconst 0, 1) := by decide +kernel
theorem dX4_findWorst_28 : decode cX4_findWorst 28 = .ok (.istore_n 3, 1) := by decide +kernel
theorem dX4_findWorst_29 : decode cX4_findWorst 29 = .ok (.iload_n 3, 1) := by decide +kernel
theorem dX4_findWorst_30 : decode cX4_findWorst 30 = .ok (.iconst 1, 1) := by decide +kernel
theorem dX4_findWorst_31 : decode cX4_findWorst 31 = .ok (.iload_n 2, 1) := by decide +kernel
theorem dX4_findWorst_32 : decode cX4_findWorst 32 = .ok (.ishl, 1) := by decide +kernel
theorem dX4_findWorst_33 : decode cX4_findWorst 33 = .ok (.if_icmp .ge 127, 3) := by decide +kernel
theorem dX4_findWorst_36 : decode cX4_findWorst 36 = .ok (.aload_n 0, 1) := by decide +kernel
theorem dX4_findWorst_37 : decode cX4_findWorst 37 = .ok (.getfield 18, 3) := by decide +kernel
theorem dX4_findWorst_40 : decode cX4_findWorst 40 = .ok (.aload_n 0, 1) := by decide +kernel
theorem dX4_findWorst_41 : decode cX4_findWorst 41 = .ok (.getfield 12, 3) := by decide +kernel
theorem dX4_findWorst_44 : decode cX4_findWorst 44 = .ok (.invokevirtual 45, 3) := by decide +kernel
theorem dX4_findWorst_47 : decode cX4_findWorst 47 = .ok (.iconst 0, 1) := by decide +kernel
theorem dX4_findWorst_48 : decode cX4_findWorst 48 = .ok (.istore 4, 2) := by decide +kernel
theorem dX4_findWorst_50 : decode cX4_findWorst 50 = .ok (.iload 4, 2) := by decide +kernel
theorem dX4_findWorst_52 : decode cX4_findWorst 52 = .ok (.iload_n 2, 1) := by decide +kernel
theorem dX4_findWorst_53 : decode cX4_findWorst 53 = .ok (.if_icmp .ge 76, 3) := by decide +kernel
theorem dX4_findWorst_56 : decode cX4_findWorst 56 = .ok (.aload_n 0, 1) := by decide +kernel
theorem dX4_findWorst_57 : decode cX4_findWorst 57 = .ok (.getfield 28, 3) := by decide +kernel
theorem dX4_findWorst_60 : decode cX4_findWorst 60 = .ok (.getfield 48, 3) := by decide +kernel
theorem dX4_findWorst_63 : decode cX4_findWorst 63 = .ok (.aload_n 0, 1) := by decide +kernel
theorem dX4_findWorst_64 : decode cX4_findWorst 64 = .ok (.getfield 21, 3) := by decide +kernel
theorem dX4_findWorst_67 : decode cX4_findWorst 67 = .ok (.iload 4, 2) := by decide +kernel
theorem dX4_findWorst_69 : decode cX4_findWorst 69 = .ok (.iaload, 1) := by decide +kernel
theorem dX4_findWorst_70 : decode cX4_findWorst 70 = .ok (.iaload, 1) := by decide +kernel
theorem dX4_findWorst_71 : decode cX4_findWorst 71 = .ok (.istore 5, 2) := by decide +kernel
theorem dX4_findWorst_73 : decode cX4_findWorst 73 = .ok (.iload_n 3, 1) := by decide +kernel
theorem dX4_findWorst_74 : decode cX4_findWorst 74 = .ok (.iload 4, 2) := by decide +kernel
theorem dX4_findWorst_76 : decode cX4_findWorst 76 = .ok (.ishr, 1) := by decide +kernel
theorem dX4_findWorst_77 : decode cX4_findWorst 77 = .ok (.iconst 1, 1) := by decide +kernel
theorem dX4_findWorst_78 : decode cX4_findWorst 78 = .ok (.iand, 1) := by decide +kernel
theorem dX4_findWorst_79 : decode cX4_findWorst 79 = .ok (.ifCond .eq 10, 3) := by decide +kernel
theorem dX4_findWorst_82 : decode cX4_findWorst 82 = .ok (.iload 5, 2) := by decide +kernel
theorem dX4_findWorst_84 : decode cX4_findWorst 84 = .ok (.iload_n 1, 1) := by decide +kernel
theorem dX4_findWorst_85 : decode cX4_findWorst 85 = .ok (.iadd, 1) := by decide +kernel
theorem dX4_findWorst_86 : decode cX4_findWorst 86 = .ok (.goto 11, 3) := by decide +kernel
theorem dX4_findWorst_89 : decode cX4_findWorst 89 = .ok (.iconst 0, 1) := by decide +kernel
theorem dX4_findWorst_90 : decode cX4_findWorst 90 = .ok (.iload 5, 2) := by decide +kernel
theorem dX4_findWorst_92 : decode cX4_findWorst 92 = .ok (.iload_n 1, 1) := by decide +kernel
theorem dX4_findWorst_93 : decode cX4_findWorst 93 = .ok (.isub, 1) := by decide +kernel
theorem dX4_findWorst_94 : decode cX4_findWorst 94 = .ok (.invokestatic 51, 3) := by decide +kernel
theorem dX4_findWorst_97 : decode cX4_findWorst 97 = .ok (.istore 6, 2) := by decide +kernel
theorem dX4_findWorst_99 : decode cX4_findWorst 99 = .ok (.aload_n 0, 1) := by decide +kernel
theorem dX4_findWorst_100 : decode cX4_findWorst 100 = .ok (.getfield 18, 3) := by decide +kernel
theorem dX4_findWorst_103 : decode cX4_findWorst 103 = .ok (.aload_n 0, 1) := by decide +kernel
theorem dX4_findWorst_104 : decode cX4_findWorst 104 = .ok (.getfield 28, 3) := by decide +kernel
theorem dX4_findWorst_107 : decode cX4_findWorst 107 = .ok (.getfield 57, 3) := by decide +kernel
theorem dX4_findWorst_110 : decode cX4_findWorst 110 = .ok (.aload_n 0, 1) := by decide +kernel
theorem dX4_findWorst_111 : decode cX4_findWorst 111 = .ok (.getfield 21, 3) := by decide +kernel
theorem dX4_findWorst_114 : decode cX4_findWorst 114 = .ok (.iload 4, 2) := by decide +kernel
theorem dX4_findWorst_116 : decode cX4_findWorst 116 = .ok (.iaload, 1) := by decide +kernel
theorem dX4_findWorst_117 : decode cX4_findWorst 117 = .ok (.iaload, 1) := by decide +kernel
theorem dX4_findWorst_118 : decode cX4_findWorst 118 = .ok (.iload 6, 2) := by decide +kernel
theorem dX4_findWorst_120 : decode cX4_findWorst 120 = .ok (.invokevirtual 60, 3) := by decide +kernel
theorem dX4_findWorst_123 : decode cX4_findWorst 123 = .ok (.iinc 4 1, 3) := by decide +kernel
theorem dX4_findWorst_126 : decode cX4_findWorst 126 = .ok (.goto (-76), 3) := by decide +kernel
theorem dX4_findWorst_129 : decode cX4_findWorst 129 = .ok (.aload_n 0, 1) := by decide +kernel
theorem dX4_findWorst_130 : decode cX4_findWorst 130 = .ok (.getfield 18, 3) := by decide +kernel
theorem dX4_findWorst_133 : decode cX4_findWorst 133 = .ok (.aload_n 0, 1) := by decide +kernel
theorem dX4_findWorst_134 : decode cX4_findWorst 134 = .ok (.getfield 25, 3) := by decide +kernel
theorem dX4_findWorst_137 : decode cX4_findWorst 137 = .ok (.invokevirtual 64, 3) := by decide +kernel
theorem dX4_findWorst_140 : decode cX4_findWorst 140 = .ok (.ifCond .eq 14, 3) := by decide +kernel
theorem dX4_findWorst_143 : decode cX4_findWorst 143 = .ok (.aload_n 0, 1) := by decide +kernel
theorem dX4_findWorst_144 : decode cX4_findWorst 144 = .ok (.getfield 25, 3) := by decide +kernel
theorem dX4_findWorst_147 : decode cX4_findWorst 147 = .ok (.aload_n 0, 1) := by decide +kernel
theorem dX4_findWorst_148 : decode cX4_findWorst 148 = .ok (.getfield 18, 3) := by decide +kernel
theorem dX4_findWorst_151 : decode cX4_findWorst 151 = .ok (.invokevirtual 45, 3) := by decide +kernel
theorem dX4_findWorst_154 : decode cX4_findWorst 154 = .ok (.iinc 3 1, 3) := by decide +kernel
theorem dX4_findWorst_157 : decode cX4_findWorst 157 = .ok (.goto (-128), 3) := by decide +kernel
theorem dX4_findWorst_160 : decode cX4_findWorst 160 = .ok (.return_, 1) := by decide +kernel
theorem dX4_listRiders_0 : decode cX4_listRiders 0 = .ok (.aload_n 0, 1) := by decide +kernel
theorem dX4_listRiders_1 : decode cX4_listRiders 1 = .ok (.getfield 28, 3) := by decide +kernel
theorem dX4_listRiders_4 : decode cX4_listRiders 4 = .ok (.invokevirtual 68, 3) := by decide +kernel
theorem dX4_listRiders_7 : decode cX4_listRiders 7 = .ok (.istore_n 1, 1) := by decide +kernel
theorem dX4_listRiders_8 : decode cX4_listRiders 8 = .ok (.iconst 0, 1) := by decide +kernel
theorem dX4_listRiders_9 : decode cX4_listRiders 9 = .ok (.istore_n 2, 1) := by decide +kernel
theorem dX4_listRiders_10 : decode cX4_listRiders 10 = .ok (.iconst 0, 1) := by decide +kernel
theorem dX4_listRiders_11 : decode cX4_listRiders 11 = .ok (.istore_n 3, 1) := by decide +kernel
theorem dX4_listRiders_12 : decode cX4_listRiders 12 = .ok (.iload_n 3, 1) := by decide +kernel
theorem dX4_listRiders_13 : decode cX4_listRiders 13 = .ok (.bipush 10, 2) := by decide +kernel
theorem dX4_listRiders_15 : decode cX4_listRiders 15 = .ok (.if_icmp .ge 27, 3) := by decide +kernel
theorem dX4_listRiders_18 : decode cX4_listRiders 18 = .ok (.iload_n 1, 1) := by decide +kernel
theorem dX4_listRiders_19 : decode cX4_listRiders 19 = .ok (.iload_n 3, 1) := by decide +kernel
theorem dX4_listRiders_20 : decode cX4_listRiders 20 = .ok (.ishr, 1) := by decide +kernel
theorem dX4_listRiders_21 : decode cX4_listRiders 21 = .ok (.iconst 1, 1) := by decide +kernel
theorem dX4_listRiders_22 : decode cX4_listRiders 22 = .ok (.iand, 1) := by decide +kernel
theorem dX4_listRiders_23 : decode cX4_listRiders 23 = .ok (.ifCond .eq 13, 3) := by decide +kernel
theorem dX4_listRiders_26 : decode cX4_listRiders 26 = .ok (.aload_n 0, 1) := by decide +kernel
theorem dX4_listRiders_27 : decode cX4_listRiders 27 = .ok (.getfield 21, 3) := by decide +kernel
theorem dX4_listRiders_30 : decode cX4_listRiders 30 = .ok (.iload_n 2, 1) := by decide +kernel
theorem dX4_listRiders_31 : decode cX4_listRiders 31 = .ok (.iload_n 3, 1) := by decide +kernel
theorem dX4_listRiders_32 : decode cX4_listRiders 32 = .ok (.iastore, 1) := by decide +kernel
theorem dX4_listRiders_33 : decode cX4_listRiders 33 = .ok (.iinc 2 1, 3) := by decide +kernel
theorem dX4_listRiders_36 : decode cX4_listRiders 36 = .ok (.iinc 3 1, 3) := by decide +kernel
theorem dX4_listRiders_39 : decode cX4_listRiders 39 = .ok (.goto (-27), 3) := by decide +kernel
theorem dX4_listRiders_42 : decode cX4_listRiders 42 = .ok (.iload_n 2, 1) := by decide +kernel
theorem dX4_listRiders_43 : decode cX4_listRiders 43 = .ok (.ireturn, 1) := by decide +kernel
theorem dX5_init_0 : decode cX5_init 0 = .ok (.aload_n 0, 1) := by decide +kernel
theorem dX5_init_1 : decode cX5_init 1 = .ok (.invokespecial 3, 3) := by decide +kernel
theorem dX5_init_4 : decode cX5_init 4 = .ok (.aload_n 0, 1) := by decide +kernel
theorem dX5_init_5 : decode cX5_init 5 = .ok (.bipush 120, 2) := by decide +kernel
theorem dX5_init_7 : decode cX5_init 7 = .ok (.newarray .byte, 2) := by decide +kernel
theorem dX5_init_9 : decode cX5_init 9 = .ok (.putfield 11, 3) := by decide +kernel
theorem dX5_init_12 : decode cX5_init 12 = .ok (.aload_n 0, 1) := by decide +kernel
theorem dX5_init_13 : decode cX5_init 13 = .ok (.iconst 0, 1) := by decide +kernel
theorem dX5_init_14 : decode cX5_init 14 = .ok (.putfield 15, 3) := by decide +kernel
theorem dX5_init_17 : decode cX5_init 17 = .ok (.aload_n 0, 1) := by decide +kernel
theorem dX5_init_18 : decode cX5_init 18 = .ok (.bipush 64, 2) := by decide +kernel
theorem dX5_init_20 : decode cX5_init 20 = .ok (.newarray .int, 2) := by decide +kernel
theorem dX5_init_22 : decode cX5_init 22 = .ok (.putfield 19, 3) := by decide +kernel
theorem dX5_init_25 : decode cX5_init 25 = .ok (.aload_n 0, 1) := by decide +kernel
theorem dX5_init_26 : decode cX5_init 26 = .ok (.bipush 64, 2) := by decide +kernel
theorem dX5_init_28 : decode cX5_init 28 = .ok (.newarray .int, 2) := by decide +kernel
theorem dX5_init_30 : decode cX5_init 30 = .ok (.putfield 23, 3) := by decide +kernel
theorem dX5_init_33 : decode cX5_init 33 = .ok (.return_, 1) := by decide +kernel
theorem dX5_isTypable_0 : decode cX5_isTypable 0 = .ok (.iload_n 0, 1) := by decide +kernel
theorem dX5_isTypable_1 : decode cX5_isTypable 1 = .ok (.bipush 32, 2) := by decide +kernel
theorem dX5_isTypable_3 : decode cX5_isTypable 3 = .ok (.if_icmp .lt 13, 3) := by decide +kernel
theorem dX5_isTypable_6 : decode cX5_isTypable 6 = .ok (.iload_n 0, 1) := by decide +kernel
theorem dX5_isTypable_7 : decode cX5_isTypable 7 = .ok (.bipush 126, 2) := by decide +kernel
theorem dX5_isTypable_9 : decode cX5_isTypable 9 = .ok (.if_icmp .gt 7, 3) := by decide +kernel
theorem dX5_isTypable_12 : decode cX5_isTypable 12 = .ok (.iconst 1, 1) := by decide +kernel
theorem dX5_isTypable_13 : decode cX5_isTypable 13 = .ok (.goto 4, 3) := by decide +kernel
theorem dX5_isTypable_16 : decode cX5_isTypable 16 = .ok (.iconst 0, 1) := by decide +kernel
theorem dX5_isTypable_17 : decode cX5_isTypable 17 = .ok (.ireturn, 1) := by decide +kernel
theorem dX5_append_0 : decode cX5_append 0 = .ok (.aload_n 0, 1) := by decide +kernel
theorem dX5_append_1 : decode cX5_append 1 = .ok (.getfield 15, 3) := by decide +kernel
theorem dX5_append_4 : decode cX5_append 4 = .ok (.bipush 120, 2) := by decide +kernel
theorem dX5_append_6 : decode cX5_append 6 = .ok (.if_icmp .ge 24, 3) := by decide +kernel
theorem dX5_append_9 : decode cX5_append 9 = .ok (.aload_n 0, 1) := by decide +kernel
theorem dX5_append_10 : decode cX5_append 10 = .ok (.getfield 11, 3) := by decide +kernel
theorem dX5_append_13 : decode cX5_append 13 = .ok (.aload_n 0, 1) := by decide +kernel
theorem dX5_append_14 : decode cX5_append 14 = .ok (.getfield 15, 3) := by decide +kernel
theorem dX5_append_17 : decode cX5_append 17 = .ok (.iload_n 1, 1) := by decide +kernel
theorem dX5_append_18 : decode cX5_append 18 = .ok (.i2b, 1) := by decide +kernel
theorem dX5_append_19 : decode cX5_append 19 = .ok (.bastore, 1) := by decide +kernel
theorem dX5_append_20 : decode cX5_append 20 = .ok (.aload_n 0, 1) := by decide +kernel
theorem dX5_append_21 : decode cX5_append 21 = .ok (.dup, 1) := by decide +kernel
theorem dX5_append_22 : decode cX5_append 22 = .ok (.getfield 15, 3) := by decide +kernel
theorem dX5_append_25 : decode cX5_append 25 = .ok (.iconst 1, 1) := by decide +kernel
theorem dX5_append_26 : decode cX5_append 26 = .ok (.iadd, 1) := by decide +kernel
theorem dX5_append_27 : decode cX5_append 27 = .ok (.putfield 15, 3) := by decide +kernel
theorem dX5_append_30 : decode cX5_append 30 = .ok (.return_, 1) := by decide +kernel
theorem dX5_readPeople_0 : decode cX5_readPeople 0 = .ok (.aload_n 0, 1) := by decide +kernel
theorem dX5_readPeople_1 : decode cX5_readPeople 1 = .ok (.ldc 26, 2) := by decide +kernel
theorem dX5_readPeople_3 : decode cX5_readPeople 3 = .ok (.bipush 44, 2) := by decide +kernel
theorem dX5_readPeople_5 : decode cX5_readPeople 5 = .ok (.bipush 10, 2) := by decide +kernel
theorem dX5_readPeople_7 : decode cX5_readPeople 7 = .ok (.invokevirtual 28, 3) := by decide +kernel
theorem dX5_readPeople_10 : decode cX5_readPeople 10 = .ok (.ireturn, 1) := by decide +kernel
theorem dX5_readEvening_0 : decode cX5_readEvening 0 = .ok (.aload_n 0, 1) := by decide +kernel
theorem dX5_readEvening_1 : decode cX5_readEvening 1 = .ok (.ldc 32, 2) := by decide +kernel
theorem dX5_readEvening_3 : decode cX5_readEvening 3 = .ok (.bipush 59, 2) := by decide +kernel
theorem dX5_readEvening_5 : decode cX5_readEvening 5 = .ok (.bipush 64, 2) := by decide +kernel
theorem dX5_readEvening_7 : decode cX5_readEvening 7 = .ok (.invokevirtual 28, 3) := by decide +kernel
theorem dX5_readEvening_10 : decode cX5_readEvening 10 = .ok (.ireturn, 1) := by decide +kernel
theorem dX5_readEntries_0 : decode cX5_readEntries 0 = .ok (.aload_n 0, 1) := by decide +kernel
theorem dX5_readEntries_1 : decode cX5_readEntries 1 = .ok (.iconst 0, 1) := by decide +kernel
theorem dX5_readEntries_2 : decode cX5_readEntries 2 = .ok (.putfield 34, 3) := by decide +kernel
theorem dX5_readEntries_5 : decode cX5_readEntries 5 = .ok (.iconst 0, 1) := by decide +kernel
theorem dX5_readEntries_6 : decode cX5_readEntries 6 = .ok (.istore 4, 2) := by decide +kernel
theorem dX5_readEntries_8 : decode cX5_readEntries 8 = .ok (.iload 4, 2) := by decide +kernel
theorem dX5_readEntries_10 : decode cX5_readEntries 10 = .ok (.iload_n 3, 1) := by decide +kernel
theorem dX5_readEntries_11 : decode cX5_readEntries 11 = .ok (.if_icmp .ge 106, 3) := by decide +kernel
theorem dX5_readEntries_14 : decode cX5_readEntries 14 = .ok (.aload_n 0, 1) := by decide +kernel
theorem dX5_readEntries_15 : decode cX5_readEntries 15 = .ok (.aload_n 1, 1) := by decide +kernel
theorem dX5_readEntries_16 : decode cX5_readEntries 16 = .ok (.iload 4, 2) := by decide +kernel
theorem dX5_readEntries_18 : decode cX5_readEntries 18 = .ok (.invokevirtual 37, 3) := by decide +kernel
theorem dX5_readEntries_21 : decode cX5_readEntries 21 = .ok (.istore 5, 2) := by decide +kernel
theorem dX5_readEntries_23 : decode cX5_readEntries 23 = .ok (.iload 5, 2) := by decide +kernel
theorem dX5_readEntries_25 : decode cX5_readEntries 25 = .ok (.ifCond .ne 29, 3) := by decide +kernel
theorem dX5_readEntries_28 : decode cX5_readEntries 28 = .ok (.iload_n 2, 1) := by decide +kernel
theorem dX5_readEntries_29 : decode cX5_readEntries 29 = .ok (.bipush 44, 2) := by decide +kernel
theorem dX5_readEntries_31 : decode cX5_readEntries 31 = .ok (.if_icmp .ne 15, 3) := by decide +kernel
theorem dX5_readEntries_34 : decode cX5_readEntries 34 = .ok (.aload_n 0, 1) := by decide +kernel
theorem dX5_readEntries_35 : decode cX5_readEntries 35 = .ok (.iload 4, 2) := by decide +kernel
theorem dX5_readEntries_37 : decode cX5_readEntries 37 = .ok (.iconst 1, 1) := by decide +kernel
theorem dX5_readEntries_38 : decode cX5_readEntries 38 = .ok (.bipush 99, 2) := by decide +kernel
theorem dX5_readEntries_40 : decode cX5_readEntries 40 = .ok (.invokevirtual 41, 3) := by decide +kernel
theorem dX5_readEntries_43 : decode cX5_readEntries 43 = .ok (.goto 9, 3) := by decide +kernel
theorem dX5_readEntries_46 : decode cX5_readEntries 46 = .ok (.aload_n 0, 1) := by decide +kernel
theorem dX5_readEntries_47 : decode cX5_readEntries 47 = .ok (.iload 4, 2) := by decide +kernel
theorem dX5_readEntries_49 : decode cX5_readEntries 49 = .ok (.invokevirtual 45, 3) := by decide +kernel
theorem dX5_readEntries_52 : decode cX5_readEntries 52 = .ok (.istore 5, 2) := by decide +kernel
theorem dX5_readEntries_54 : decode cX5_readEntries 54 = .ok (.iload 5, 2) := by decide +kernel
theorem dX5_readEntries_56 : decode cX5_readEntries 56 = .ok (.ifCond .eq 6, 3) := by decide +kernel
theorem dX5_readEntries_59 : decode cX5_readEntries 59 = .ok (.iload 5, 2) := by decide +kernel
theorem dX5_readEntries_61 : decode cX5_readEntries 61 = .ok (.ireturn, 1) := by decide +kernel
theorem dX5_readEntries_62 : decode cX5_readEntries 62 = .ok (.aload_n 0, 1) := by decide +kernel
theorem dX5_readEntries_63 : decode cX5_readEntries 63 = .ok (.invokevirtual 49, 3) := by decide +kernel
theorem dX5_readEntries_66 : decode cX5_readEntries 66 = .ok (.istore 6, 2) := by decide +kernel
theorem dX5_readEntries_68 : decode cX5_readEntries 68 = .ok (.iload 6, 2) := by decide +kernel
theorem dX5_readEntries_70 : decode cX5_readEntries 70 = .ok (.iconst (-1), 1) := by decide +kernel
theorem dX5_readEntries_71 : decode cX5_readEntries 71 = .ok (.if_icmp .ne 8, 3) := by decide +kernel
theorem dX5_readEntries_74 : decode cX5_readEntries 74 = .ok (.iload 4, 2) := by decide +kernel
theorem dX5_readEntries_76 : decode cX5_readEntries 76 = .ok (.iconst 1, 1) := by decide +kernel
theorem dX5_readEntries_77 : decode cX5_readEntries 77 = .ok (.iadd, 1) := by decide +kernel
theorem dX5_readEntries_78 : decode cX5_readEntries 78 = .ok (.ireturn, 1) := by decide +kernel
theorem dX5_readEntries_79 : decode cX5_readEntries 79 = .ok (.iload 6, 2) := by decide +kernel
theorem dX5_readEntries_81 : decode cX5_readEntries 81 = .ok (.iload_n 2, 1) := by decide +kernel
theorem dX5_readEntries_82 : decode cX5_readEntries 82 = .ok (.if_icmp .ne 11, 3) := by decide +kernel
theorem dX5_readEntries_85 : decode cX5_readEntries 85 = .ok (.iload 4, 2) := by decide +kernel
theorem dX5_readEntries_87 : decode cX5_readEntries 87 = .ok (.iload_n 3, 1) := by decide +kernel
theorem dX5_readEntries_88 : decode cX5_readEntries 88 = .ok (.iconst 1, 1) := by decide +kernel
theorem dX5_readEntries_89 : decode cX5_readEntries 89 = .ok (.isub, 1) := by decide +kernel
theorem dX5_readEntries_90 : decode cX5_readEntries 90 = .ok (.if_icmp .ne 11, 3) := by decide +kernel
theorem dX5_readEntries_93 : decode cX5_readEntries 93 = .ok (.aload_n 0, 1) := by decide +kernel
theorem dX5_readEntries_94 : decode cX5_readEntries 94 = .ok (.getfield 34, 3) := by decide +kernel
theorem dX5_readEntries_97 : decode cX5_readEntries 97 = .ok (.invokestatic 53, 3) := by decide +kernel
theorem dX5_readEntries_100 : decode cX5_readEntries 100 = .ok (.ireturn, 1) := by decide +kernel
theorem dX5_readEntries_101 : decode cX5_readEntries 101 = .ok (.aload_n 0, 1) := by decide +kernel
theorem dX5_readEntries_102 : decode cX5_readEntries 102 = .ok (.dup, 1) := by decide +kernel
theorem dX5_readEntries_103 : decode cX5_readEntries 103 = .ok (.getfield 34, 3) := by decide +kernel
theorem dX5_readEntries_106 : decode cX5_readEntries 106 = .ok (.iconst 1, 1) := by decide +kernel
theorem dX5_readEntries_107 : decode cX5_readEntries 107 = .ok (.iadd, 1) := by decide +kernel
theorem dX5_readEntries_108 : decode cX5_readEntries 108 = .ok (.putfield 34, 3) := by decide +kernel
theorem dX5_readEntries_111 : decode cX5_readEntries 111 = .ok (.iinc 4 1, 3) := by decide +kernel
theorem dX5_readEntries_114 : decode cX5_readEntries 114 = .ok (.goto (-106), 3) := by decide +kernel
theorem dX5_readEntries_117 : decode cX5_readEntries 117 = .ok (.aload_n 0, 1) := by decide +kernel
theorem dX5_readEntries_118 : decode cX5_readEntries 118 = .ok (.getfield 34, 3) := by decide +kernel
theorem dX5_readEntries_121 : decode cX5_readEntries 121 = .ok (.invokestatic 53, 3) := by decide +kernel
theorem dX5_readEntries_124 : decode cX5_readEntries 124 = .ok (.ireturn, 1) := by decide +kernel
theorem dX5_faultAt_0 : decode cX5_faultAt 0 = .ok (.bipush (-20), 2) := by decide +kernel
theorem dX5_faultAt_2 : decode cX5_faultAt 2 = .ok (.iload_n 0, 1) := by decide +kernel
theorem dX5_faultAt_3 : decode cX5_faultAt 3 = .ok (.isub, 1) := by decide +kernel
theorem dX5_faultAt_4 : decode cX5_faultAt 4 = .ok (.ireturn, 1) := by decide +kernel
theorem dX5_isDigit_0 : decode cX5_isDigit 0 = .ok (.iload_n 0, 1) := by decide +kernel
theorem dX5_isDigit_1 : decode cX5_isDigit 1 = .ok (.bipush 48, 2) := by decide +kernel
theorem dX5_isDigit_3 : decode cX5_isDigit 3 = .ok (.if_icmp .lt 13, 3) := by decide +kernel
theorem dX5_isDigit_6 : decode cX5_isDigit 6 = .ok (.iload_n 0, 1) := by decide +kernel
theorem dX5_isDigit_7 : decode cX5_isDigit 7 = .ok (.bipush 57, 2) := by decide +kernel
theorem dX5_isDigit_9 : decode cX5_isDigit 9 = .ok (.if_icmp .gt 7, 3) := by decide +kernel
theorem dX5_isDigit_12 : decode cX5_isDigit 12 = .ok (.iconst 1, 1) := by decide +kernel
theorem dX5_isDigit_13 : decode cX5_isDigit 13 = .ok (.goto 4, 3) := by decide +kernel
theorem dX5_isDigit_16 : decode cX5_isDigit 16 = .ok (.iconst 0, 1) := by decide +kernel
theorem dX5_isDigit_17 : decode cX5_isDigit 17 = .ok (.ireturn, 1) := by decide +kernel
theorem dX5_next_0 : decode cX5_next 0 = .ok (.aload_n 0, 1) := by decide +kernel
theorem dX5_next_1 : decode cX5_next 1 = .ok (.getfield 34, 3) := by decide +kernel
theorem dX5_next_4 : decode cX5_next 4 = .ok (.aload_n 0, 1) := by decide +kernel
theorem dX5_next_5 : decode cX5_next 5 = .ok (.getfield 15, 3) := by decide +kernel
theorem dX5_next_8 : decode cX5_next 8 = .ok (.if_icmp .ge 30, 3) := by decide +kernel
theorem dX5_next_11 : decode cX5_next 11 = .ok (.aload_n 0, 1) := by decide +kernel
theorem dX5_next_12 : decode cX5_next 12 = .ok (.getfield 11, 3) := by decide +kernel
theorem dX5_next_15 : decode cX5_next 15 = .ok (.aload_n 0, 1) := by decide +kernel
theorem dX5_next_16 : decode cX5_next 16 = .ok (.getfield 34, 3) := by decide +kernel
theorem dX5_next_19 : decode cX5_next 19 = .ok (.baload, 1) := by decide +kernel
theorem dX5_next_20 : decode cX5_next 20 = .ok (.bipush 32, 2) := by decide +kernel
theorem dX5_next_22 : decode cX5_next 22 = .ok (.if_icmp .ne 16, 3) := by decide +kernel
theorem dX5_next_25 : decode cX5_next 25 = .ok (.aload_n 0, 1) := by decide +kernel
theorem dX5_next_26 : decode cX5_next 26 = .ok (.dup, 1) := by decide +kernel
theorem dX5_next_27 : decode cX5_next 27 = .ok (.getfield 34, 3) := by decide +kernel
theorem dX5_next_30 : decode cX5_next 30 = .ok (.iconst 1, 1) := by decide +kernel
theorem dX5_next_31 : decode cX5_next 31 = .ok (.iadd, 1) := by decide +kernel
theorem dX5_next_32 : decode cX5_next 32 = .ok (.putfield 34, 3) := by decide +kernel
theorem dX5_next_35 : decode cX5_next 35 = .ok (.goto (-35), 3) := by decide +kernel
theorem dX5_next_38 : decode cX5_next 38 = .ok (.aload_n 0, 1) := by decide +kernel
theorem dX5_next_39 : decode cX5_next 39 = .ok (.getfield 34, 3) := by decide +kernel
theorem dX5_next_42 : decode cX5_next 42 = .ok (.aload_n 0, 1) := by decide +kernel
theorem dX5_next_43 : decode cX5_next 43 = .ok (.getfield 15, 3) := by decide +kernel
theorem dX5_next_46 : decode cX5_next 46 = .ok (.if_icmp .ge 15, 3) := by decide +kernel
theorem dX5_next_49 : decode cX5_next 49 = .ok (.aload_n 0, 1) := by decide +kernel
theorem dX5_next_50 : decode cX5_next 50 = .ok (.getfield 11, 3) := by decide +kernel
theorem dX5_next_53 : decode cX5_next 53 = .ok (.aload_n 0, 1) := by decide +kernel
theorem dX5_next_54 : decode cX5_next 54 = .ok (.getfield 34, 3) := by decide +kernel
theorem dX5_next_57 : decode cX5_next 57 = .ok (.baload, 1) := by decide +kernel
theorem dX5_next_58 : decode cX5_next 58 = .ok (.goto 4, 3) := by decide +kernel
theorem dX5_next_61 : decode cX5_next 61 = .ok (.iconst (-1), 1) := by decide +kernel
theorem dX5_next_62 : decode cX5_next 62 = .ok (.ireturn, 1) := by decide +kernel
theorem dX5_readLetter_0 : decode cX5_readLetter 0 = .ok (.aload_n 0, 1) := by decide +kernel
theorem dX5_readLetter_1 : decode cX5_readLetter 1 = .ok (.invokevirtual 49, 3) := by decide +kernel
theorem dX5_readLetter_4 : decode cX5_readLetter 4 = .ok (.istore_n 3, 1) := by decide +kernel
theorem dX5_readLetter_5 : decode cX5_readLetter 5 = .ok (.iload_n 3, 1) := by decide +kernel
theorem dX5_readLetter_6 : decode cX5_readLetter 6 = .ok (.iconst (-1), 1) := by decide +kernel
theorem dX5_readLetter_7 : decode cX5_readLetter 7 = .ok (.if_icmp .ne 7, 3) := by decide +kernel
theorem dX5_readLetter_10 : decode cX5_readLetter 10 = .ok (.iconst (-1), 1) := by decide +kernel
theorem dX5_readLetter_11 : decode cX5_readLetter 11 = .ok (.goto 9, 3) := by decide +kernel
theorem dX5_readLetter_14 : decode cX5_readLetter 14 = .ok (.aload_n 1, 1) := by decide +kernel
theorem dX5_readLetter_15 : decode cX5_readLetter 15 = .ok (.iload_n 3, 1) := by decide +kernel
theorem dX5_readLetter_16 : decode cX5_readLetter 16 = .ok (.i2c, 1) := by decide +kernel
theorem dX5_readLetter_17 : decode cX5_readLetter 17 = .ok (.invokevirtual 56, 3) := by decide +kernel
theorem dX5_readLetter_20 : decode cX5_readLetter 20 = .ok (.istore 4, 2) := by decide +kernel
theorem dX5_readLetter_22 : decode cX5_readLetter 22 = .ok (.iload 4, 2) := by decide +kernel
theorem dX5_readLetter_24 : decode cX5_readLetter 24 = .ok (.ifCond .ge 11, 3) := by decide +kernel
theorem dX5_readLetter_27 : decode cX5_readLetter 27 = .ok (.aload_n 0, 1) := by decide +kernel
theorem dX5_readLetter_28 : decode cX5_readLetter 28 = .ok (.getfield 34, 3) := by decide +kernel
theorem dX5_readLetter_31 : decode cX5_readLetter 31 = .ok (.invokestatic 53, 3) := by decide +kernel
theorem dX5_readLetter_34 : decode cX5_readLetter 34 = .ok (.ireturn, 1) := by decide +kernel
theorem dX5_readLetter_35 : decode cX5_readLetter 35 = .ok (.aload_n 0, 1) := by decide +kernel
theorem dX5_readLetter_36 : decode cX5_readLetter 36 = .ok (.getfield 19, 3) := by decide +kernel
theorem dX5_readLetter_39 : decode cX5_readLetter 39 = .ok (.iload_n 2, 1) := by decide +kernel
theorem dX5_readLetter_40 : decode cX5_readLetter 40 = .ok (.iload 4, 2) := by decide +kernel
theorem dX5_readLetter_42 : decode cX5_readLetter 42 = .ok (.iastore, 1) := by decide +kernel
theorem dX5_readLetter_43 : decode cX5_readLetter 43 = .ok (.aload_n 0, 1) := by decide +kernel
theorem dX5_readLetter_44 : decode cX5_readLetter 44 = .ok (.dup, 1) := by decide +kernel
theorem dX5_readLetter_45 : decode cX5_readLetter 45 = .ok (.getfield 34, 3) := by decide +kernel
theorem dX5_readLetter_48 : decode cX5_readLetter 48 = .ok (.iconst 1, 1) := by decide +kernel
theorem dX5_readLetter_49 : decode cX5_readLetter 49 = .ok (.iadd, 1) := by decide +kernel
theorem dX5_readLetter_50 : decode cX5_readLetter 50 = .ok (.putfield 34, 3) := by decide +kernel
theorem dX5_readLetter_53 : decode cX5_readLetter 53 = .ok (.iconst 0, 1) := by decide +kernel
theorem dX5_readLetter_54 : decode cX5_readLetter 54 = .ok (.ireturn, 1) := by decide +kernel
theorem dX5_readWhatFollows_0 : decode cX5_readWhatFollows 0 = .ok (.aload_n 0, 1) := by decide +kernel
theorem dX5_readWhatFollows_1 : decode cX5_readWhatFollows 1 = .ok (.getfield 19, 3) := by decide +kernel
theorem dX5_readWhatFollows_4 : decode cX5_readWhatFollows 4 = .ok (.iload_n 1, 1) := by decide +kernel
theorem dX5_readWhatFollows_5 : decode cX5_readWhatFollows 5 = .ok (.iaload, 1) := by decide +kernel
theorem dX5_readWhatFollows_6 : decode cX5_readWhatFollows 6 = .ok (.tableswitch 41 0 2 #[26, 26, 32], 26) := by decide +kernel
theorem dX5_readWhatFollows_32 : decode cX5_readWhatFollows 32 = .ok (.aload_n 0, 1) := by decide +kernel
theorem dX5_readWhatFollows_33 : decode cX5_readWhatFollows 33 = .ok (.iload_n 1, 1) := by decide +kernel
theorem dX5_readWhatFollows_34 : decode cX5_readWhatFollows 34 = .ok (.invokevirtual 61, 3) := by decide +kernel
theorem dX5_readWhatFollows_37 : decode cX5_readWhatFollows 37 = .ok (.ireturn, 1) := by decide +kernel
theorem dX5_readWhatFollows_38 : decode cX5_readWhatFollows 38 = .ok (.aload_n 0, 1) := by decide +kernel
theorem dX5_readWhatFollows_39 : decode cX5_readWhatFollows 39 = .ok (.iload_n 1, 1) := by decide +kernel
theorem dX5_readWhatFollows_40 : decode cX5_readWhatFollows 40 = .ok (.iconst 0, 1) := by decide +kernel
theorem dX5_readWhatFollows_41 : decode cX5_readWhatFollows 41 = .ok (.bipush 99, 2) := by decide +kernel
theorem dX5_readWhatFollows_43 : decode cX5_readWhatFollows 43 = .ok (.invokevirtual 41, 3) := by decide +kernel
theorem dX5_readWhatFollows_46 : decode cX5_readWhatFollows 46 = .ok (.ireturn, 1) := by decide +kernel
theorem dX5_readWhatFollows_47 : decode cX5_readWhatFollows 47 = .ok (.aload_n 0, 1) := by decide +kernel
theorem dX5_readWhatFollows_48 : decode cX5_readWhatFollows 48 = .ok (.getfield 23, 3) := by decide +kernel
theorem dX5_readWhatFollows_51 : decode cX5_readWhatFollows 51 = .ok (.iload_n 1, 1) := by decide +kernel
theorem dX5_readWhatFollows_52 : decode cX5_readWhatFollows 52 = .ok (.iconst 0, 1) := by decide +kernel
theorem dX5_readWhatFollows_53 : decode cX5_readWhatFollows 53 = .ok (.iastore, 1) := by decide +kernel
theorem dX5_readWhatFollows_54 : decode cX5_readWhatFollows 54 = .ok (.iconst 0, 1) := by decide +kernel
theorem dX5_readWhatFollows_55 : decode cX5_readWhatFollows 55 = .ok (.ireturn, 1) := by decide +kernel
theorem dX5_readDigit_0 : decode cX5_readDigit 0 = .ok (.aload_n 0, 1) := by decide +kernel
theorem dX5_readDigit_1 : decode cX5_readDigit 1 = .ok (.invokevirtual 49, 3) := by decide +kernel
theorem dX5_readDigit_4 : decode cX5_readDigit 4 = .ok (.istore_n 2, 1) := by decide +kernel
theorem dX5_readDigit_5 : decode cX5_readDigit 5 = .ok (.iload_n 2, 1) := by decide +kernel
theorem dX5_readDigit_6 : decode cX5_readDigit 6 = .ok (.invokestatic 64, 3) := by decide +kernel
theorem dX5_readDigit_9 : decode cX5_readDigit 9 = .ok (.ifCond .ne 11, 3) := by decide +kernel
theorem dX5_readDigit_12 : decode cX5_readDigit 12 = .ok (.aload_n 0, 1) := by decide +kernel
theorem dX5_readDigit_13 : decode cX5_readDigit 13 = .ok (.getfield 34, 3) := by decide +kernel
theorem dX5_readDigit_16 : decode cX5_readDigit 16 = .ok (.invokestatic 53, 3) := by decide +kernel
theorem dX5_readDigit_19 : decode cX5_readDigit 19 = .ok (.ireturn, 1) := by decide +kernel
theorem dX5_readDigit_20 : decode cX5_readDigit 20 = .ok (.aload_n 0, 1) := by decide +kernel
theorem dX5_readDigit_21 : decode cX5_readDigit 21 = .ok (.getfield 23, 3) := by decide +kernel
theorem dX5_readDigit_24 : decode cX5_readDigit 24 = .ok (.iload_n 1, 1) := by decide +kernel
theorem dX5_readDigit_25 : decode cX5_readDigit 25 = .ok (.iload_n 2, 1) := by decide +kernel
theorem dX5_readDigit_26 : decode cX5_readDigit 26 = .ok (.bipush 48, 2) := by decide +kernel
theorem dX5_readDigit_28 : decode cX5_readDigit 28 = .ok (.isub, 1) := by decide +kernel
theorem dX5_readDigit_29 : decode cX5_readDigit 29 = .ok (.iastore, 1) := by decide +kernel
theorem dX5_readDigit_30 : decode cX5_readDigit 30 = .ok (.aload_n 0, 1) := by decide +kernel
theorem dX5_readDigit_31 : decode cX5_readDigit 31 = .ok (.dup, 1) := by decide +kernel
theorem dX5_readDigit_32 : decode cX5_readDigit 32 = .ok (.getfield 34, 3) := by decide +kernel
theorem dX5_readDigit_35 : decode cX5_readDigit 35 = .ok (.iconst 1, 1) := by decide +kernel
theorem dX5_readDigit_36 : decode cX5_readDigit 36 = .ok (.iadd, 1) := by decide +kernel
theorem dX5_readDigit_37 : decode cX5_readDigit 37 = .ok (.putfield 34, 3) := by decide +kernel
theorem dX5_readDigit_40 : decode cX5_readDigit 40 = .ok (.iconst 0, 1) := by decide +kernel
theorem dX5_readDigit_41 : decode cX5_readDigit 41 = .ok (.ireturn, 1) := by decide +kernel
theorem dX5_readNumber_0 : decode cX5_readNumber 0 = .ok (.aload_n 0, 1) := by decide +kernel
theorem dX5_readNumber_1 : decode cX5_readNumber 1 = .ok (.invokevirtual 49, 3) := by decide +kernel
theorem dX5_readNumber_4 : decode cX5_readNumber 4 = .ok (.invokestatic 64, 3) := by decide +kernel
theorem dX5_readNumber_7 : decode cX5_readNumber 7 = .ok (.ifCond .ne 11, 3) := by decide +kernel
theorem dX5_readNumber_10 : decode cX5_readNumber 10 = .ok (.aload_n 0, 1) := by decide +kernel
theorem dX5_readNumber_11 : decode cX5_readNumber 11 = .ok (.getfield 34, 3) := by decide +kernel
theorem dX5_readNumber_14 : decode cX5_readNumber 14 = .ok (.invokestatic 53, 3) := by decide +kernel
theorem dX5_readNumber_17 : decode cX5_readNumber 17 = .ok (.ireturn, 1) := by decide +kernel
theorem dX5_readNumber_18 : decode cX5_readNumber 18 = .ok (.aload_n 0, 1) := by decide +kernel
theorem dX5_readNumber_19 : decode cX5_readNumber 19 = .ok (.getfield 34, 3) := by decide +kernel
theorem dX5_readNumber_22 : decode cX5_readNumber 22 = .ok (.istore 4, 2) := by decide +kernel
theorem dX5_readNumber_24 : decode cX5_readNumber 24 = .ok (.iconst 0, 1) := by decide +kernel
theorem dX5_readNumber_25 : decode cX5_readNumber 25 = .ok (.istore 5, 2) := by decide +kernel
theorem dX5_readNumber_27 : decode cX5_readNumber 27 = .ok (.aload_n 0, 1) := by decide +kernel
theorem dX5_readNumber_28 : decode cX5_readNumber 28 = .ok (.getfield 34, 3) := by decide +kernel
theorem dX5_readNumber_31 : decode cX5_readNumber 31 = .ok (.aload_n 0, 1) := by decide +kernel
theorem dX5_readNumber_32 : decode cX5_readNumber 32 = .ok (.getfield 15, 3) := by decide +kernel
theorem dX5_readNumber_35 : decode cX5_readNumber 35 = .ok (.if_icmp .ge 57, 3) := by decide +kernel
theorem dX5_readNumber_38 : decode cX5_readNumber 38 = .ok (.aload_n 0, 1) := by decide +kernel
theorem dX5_readNumber_39 : decode cX5_readNumber 39 = .ok (.getfield 11, 3) := by decide +kernel
theorem dX5_readNumber_42 : decode cX5_readNumber 42 = .ok (.aload_n 0, 1) := by decide +kernel
theorem dX5_readNumber_43 : decode cX5_readNumber 43 = .ok (.getfield 34, 3) := by decide +kernel
theorem dX5_readNumber_46 : decode cX5_readNumber 46 = .ok (.baload, 1) := by decide +kernel
theorem dX5_readNumber_47 : decode cX5_readNumber 47 = .ok (.invokestatic 64, 3) := by decide +kernel
theorem dX5_readNumber_50 : decode cX5_readNumber 50 = .ok (.ifCond .eq 42, 3) := by decide +kernel
theorem dX5_readNumber_53 : decode cX5_readNumber 53 = .ok (.bipush 10, 2) := by decide +kernel
theorem dX5_readNumber_55 : decode cX5_readNumber 55 = .ok (.iload 5, 2) := by decide +kernel
theorem dX5_readNumber_57 : decode cX5_readNumber 57 = .ok (.imul, 1) := by decide +kernel
theorem dX5_readNumber_58 : decode cX5_readNumber 58 = .ok (.aload_n 0, 1) := by decide +kernel
theorem dX5_readNumber_59 : decode cX5_readNumber 59 = .ok (.getfield 11, 3) := by decide +kernel
theorem dX5_readNumber_62 : decode cX5_readNumber 62 = .ok (.aload_n 0, 1) := by decide +kernel
theorem dX5_readNumber_63 : decode cX5_readNumber 63 = .ok (.getfield 34, 3) := by decide +kernel
theorem dX5_readNumber_66 : decode cX5_readNumber 66 = .ok (.baload, 1) := by decide +kernel
theorem dX5_readNumber_67 : decode cX5_readNumber 67 = .ok (.iadd, 1) := by decide +kernel
theorem dX5_readNumber_68 : decode cX5_readNumber 68 = .ok (.bipush 48, 2) := by decide +kernel
theorem dX5_readNumber_70 : decode cX5_readNumber 70 = .ok (.isub, 1) := by decide +kernel
theorem dX5_readNumber_71 : decode cX5_readNumber 71 = .ok (.iload_n 3, 1) := by decide +kernel
theorem dX5_readNumber_72 : decode cX5_readNumber 72 = .ok (.iconst 1, 1) := by decide +kernel
theorem dX5_readNumber_73 : decode cX5_readNumber 73 = .ok (.iadd, 1) := by decide +kernel
theorem dX5_readNumber_74 : decode cX5_readNumber 74 = .ok (.invokestatic 68, 3) := by decide +kernel
theorem dX5_readNumber_77 : decode cX5_readNumber 77 = .ok (.istore 5, 2) := by decide +kernel
theorem dX5_readNumber_79 : decode cX5_readNumber 79 = .ok (.aload_n 0, 1) := by decide +kernel
theorem dX5_readNumber_80 : decode cX5_readNumber 80 = .ok (.dup, 1) := by decide +kernel
theorem dX5_readNumber_81 : decode cX5_readNumber 81 = .ok (.getfield 34, 3) := by decide +kernel
theorem dX5_readNumber_84 : decode cX5_readNumber 84 = .ok (.iconst 1, 1) := by decide +kernel
theorem dX5_readNumber_85 : decode cX5_readNumber 85 = .ok (.iadd, 1) := by decide +kernel
theorem dX5_readNumber_86 : decode cX5_readNumber 86 = .ok (.putfield 34, 3) := by decide +kernel
theorem dX5_readNumber_89 : decode cX5_readNumber 89 = .ok (.goto (-62), 3) := by decide +kernel
theorem dX5_readNumber_92 : decode cX5_readNumber 92 = .ok (.aload_n 0, 1) := by decide +kernel
theorem dX5_readNumber_93 : decode cX5_readNumber 93 = .ok (.getfield 23, 3) := by decide +kernel
theorem dX5_readNumber_96 : decode cX5_readNumber 96 = .ok (.iload_n 1, 1) := by decide +kernel
theorem dX5_readNumber_97 : decode cX5_readNumber 97 = .ok (.iload 5, 2) := by decide +kernel
theorem dX5_readNumber_99 : decode cX5_readNumber 99 = .ok (.iastore, 1) := by decide +kernel
theorem dX5_readNumber_100 : decode cX5_readNumber 100 = .ok (.iload 5, 2) := by decide +kernel
theorem dX5_readNumber_102 : decode cX5_readNumber 102 = .ok (.iload_n 2, 1) := by decide +kernel
theorem dX5_readNumber_103 : decode cX5_readNumber 103 = .ok (.if_icmp .lt 9, 3) := by decide +kernel
theorem dX5_readNumber_106 : decode cX5_readNumber 106 = .ok (.iload 5, 2) := by decide +kernel
theorem dX5_readNumber_108 : decode cX5_readNumber 108 = .ok (.iload_n 3, 1) := by decide +kernel
theorem dX5_readNumber_109 : decode cX5_readNumber 109 = .ok (.if_icmp .le 11, 3) := by decide +kernel
theorem dX5_readNumber_112 : decode cX5_readNumber 112 = .ok (.iload 4, 2) := by decide +kernel
theorem dX5_readNumber_114 : decode cX5_readNumber 114 = .ok (.invokestatic 53, 3) := by decide +kernel
theorem dX5_readNumber_117 : decode cX5_readNumber 117 = .ok (.goto 4, 3) := by decide +kernel
theorem dX5_readNumber_120 : decode cX5_readNumber 120 = .ok (.iconst 0, 1) := by decide +kernel
theorem dX5_readNumber_121 : decode cX5_readNumber 121 = .ok (.ireturn, 1) := by decide +kernel
theorem dX6_init_0 : decode cX6_init 0 = .ok (.aload_n 0, 1) := by decide +kernel
theorem dX6_init_1 : decode cX6_init 1 = .ok (.invokespecial 3, 3) := by decide +kernel
theorem dX6_init_4 : decode cX6_init 4 = .ok (.aload_n 0, 1) := by decide +kernel
theorem dX6_init_5 : decode cX6_init 5 = .ok (.bipush 10, 2) := by decide +kernel
theorem dX6_init_7 : decode cX6_init 7 = .ok (.newarray .int, 2) := by decide +kernel
theorem dX6_init_9 : decode cX6_init 9 = .ok (.putfield 9, 3) := by decide +kernel
theorem dX6_init_12 : decode cX6_init 12 = .ok (.aload_n 0, 1) := by decide +kernel
theorem dX6_init_13 : decode cX6_init 13 = .ok (.bipush 10, 2) := by decide +kernel
theorem dX6_init_15 : decode cX6_init 15 = .ok (.newarray .int, 2) := by decide +kernel
theorem dX6_init_17 : decode cX6_init 17 = .ok (.putfield 15, 3) := by decide +kernel
theorem dX6_init_20 : decode cX6_init 20 = .ok (.aload_n 0, 1) := by decide +kernel
theorem dX6_init_21 : decode cX6_init 21 = .ok (.bipush 10, 2) := by decide +kernel
theorem dX6_init_23 : decode cX6_init 23 = .ok (.newarray .int, 2) := by decide +kernel
theorem dX6_init_25 : decode cX6_init 25 = .ok (.putfield 18, 3) := by decide +kernel
theorem dX6_init_28 : decode cX6_init 28 = .ok (.aload_n 0, 1) := by decide +kernel
theorem dX6_init_29 : decode cX6_init 29 = .ok (.bipush 10, 2) := by decide +kernel
theorem dX6_init_31 : decode cX6_init 31 = .ok (.newarray .int, 2) := by decide +kernel
theorem dX6_init_33 : decode cX6_init 33 = .ok (.putfield 21, 3) := by decide +kernel
theorem dX6_init_36 : decode cX6_init 36 = .ok (.aload_n 0, 1) := by decide +kernel
theorem dX6_init_37 : decode cX6_init 37 = .ok (.bipush 12, 2) := by decide +kernel
theorem dX6_init_39 : decode cX6_init 39 = .ok (.newarray .int, 2) := by decide +kernel
theorem dX6_init_41 : decode cX6_init 41 = .ok (.putfield 24, 3) := by decide +kernel
theorem dX6_init_44 : decode cX6_init 44 = .ok (.aload_n 0, 1) := by decide +kernel
theorem dX6_init_45 : decode cX6_init 45 = .ok (.iconst 0, 1) := by decide +kernel
theorem dX6_init_46 : decode cX6_init 46 = .ok (.putfield 27, 3) := by decide +kernel
theorem dX6_init_49 : decode cX6_init 49 = .ok (.aload_n 0, 1) := by decide +kernel
theorem dX6_init_50 : decode cX6_init 50 = .ok (.iconst 0, 1) := by decide +kernel
theorem dX6_init_51 : decode cX6_init 51 = .ok (.putfield 31, 3) := by decide +kernel
theorem dX6_init_54 : decode cX6_init 54 = .ok (.aload_n 0, 1) := by decide +kernel
theorem dX6_init_55 : decode cX6_init 55 = .ok (.bipush 20, 2) := by decide +kernel
theorem dX6_init_57 : decode cX6_init 57 = .ok (.putfield 34, 3) := by decide +kernel
theorem dX6_init_60 : decode cX6_init 60 = .ok (.return_, 1) := by decide +kernel
theorem dX6_become_0 : decode cX6_become 0 = .ok (.aload_n 1, 1) := by decide +kernel
theorem dX6_become_1 : decode cX6_become 1 = .ok (.getfield 9, 3) := by decide +kernel
theorem dX6_become_4 : decode cX6_become 4 = .ok (.iconst 0, 1) := by decide +kernel
theorem dX6_become_5 : decode cX6_become 5 = .ok (.aload_n 0, 1) := by decide +kernel
theorem dX6_become_6 : decode cX6_become 6 = .ok (.getfield 9, 3) := by decide +kernel
theorem dX6_become_9 : decode cX6_become 9 = .ok (.iconst 0, 1) := by decide +kernel
theorem dX6_become_10 : decode cX6_become 10 = .ok (.bipush 10, 2) := by decide +kernel
theorem dX6_become_12 : decode cX6_become 12 = .ok (.invokestatic 37, 3) := by decide +kernel
theorem dX6_become_15 : decode cX6_become 15 = .ok (.aload_n 1, 1) := by decide +kernel
theorem dX6_become_16 : decode cX6_become 16 = .ok (.getfield 15, 3) := by decide +kernel
theorem dX6_become_19 : decode cX6_become 19 = .ok (.iconst 0, 1) := by decide +kernel
theorem dX6_become_20 : decode cX6_become 20 = .ok (.aload_n 0, 1) := by decide +kernel
theorem dX6_become_21 : decode cX6_become 21 = .ok (.getfield 15, 3) := by decide +kernel
theorem dX6_become_24 : decode cX6_become 24 = .ok (.iconst 0, 1) := by decide +kernel
theorem dX6_become_25 : decode cX6_become 25 = .ok (.bipush 10, 2) := by decide +kernel
theorem dX6_become_27 : decode cX6_become 27 = .ok (.invokestatic 37, 3) := by decide +kernel
theorem dX6_become_30 : decode cX6_become 30 = .ok (.aload_n 1, 1) := by decide +kernel
theorem dX6_become_31 : decode cX6_become 31 = .ok (.getfield 18, 3) := by decide +kernel
theorem dX6_become_34 : decode cX6_become 34 = .ok (.iconst 0, 1) := by decide +kernel
theorem dX6_become_35 : decode cX6_become 35 = .ok (.aload_n 0, 1) := by decide +kernel
theorem dX6_become_36 : decode cX6_become 36 = .ok (.getfield 18, 3) := by decide +kernel
theorem dX6_become_39 : decode cX6_become 39 = .ok (.iconst 0, 1) := by decide +kernel
theorem dX6_become_40 : decode cX6_become 40 = .ok (.bipush 10, 2) := by decide +kernel
theorem dX6_become_42 : decode cX6_become 42 = .ok (.invokestatic 37, 3) := by decide +kernel
theorem dX6_become_45 : decode cX6_become 45 = .ok (.aload_n 1, 1) := by decide +kernel
theorem dX6_become_46 : decode cX6_become 46 = .ok (.getfield 21, 3) := by decide +kernel
theorem dX6_become_49 : decode cX6_become 49 = .ok (.iconst 0, 1) := by decide +kernel
theorem dX6_become_50 : decode cX6_become 50 = .ok (.aload_n 0, 1) := by decide +kernel
theorem dX6_become_51 : decode cX6_become 51 = .ok (.getfield 21, 3) := by decide +kernel
theorem dX6_become_54 : decode cX6_become 54 = .ok (.iconst 0, 1) := by decide +kernel
theorem dX6_become_55 : decode cX6_become 55 = .ok (.bipush 10, 2) := by decide +kernel
theorem dX6_become_57 : decode cX6_become 57 = .ok (.invokestatic 37, 3) := by decide +kernel
theorem dX6_become_60 : decode cX6_become 60 = .ok (.aload_n 1, 1) := by decide +kernel
theorem dX6_become_61 : decode cX6_become 61 = .ok (.getfield 24, 3) := by decide +kernel
theorem dX6_become_64 : decode cX6_become 64 = .ok (.iconst 0, 1) := by decide +kernel
theorem dX6_become_65 : decode cX6_become 65 = .ok (.aload_n 0, 1) := by decide +kernel
theorem dX6_become_66 : decode cX6_become 66 = .ok (.getfield 24, 3) := by decide +kernel
theorem dX6_become_69 : decode cX6_become 69 = .ok (.iconst 0, 1) := by decide +kernel
theorem dX6_become_70 : decode cX6_become 70 = .ok (.bipush 12, 2) := by decide +kernel
theorem dX6_become_72 : decode cX6_become 72 = .ok (.invokestatic 37, 3) := by decide +kernel
theorem dX6_become_75 : decode cX6_become 75 = .ok (.aload_n 0, 1) := by decide +kernel
theorem dX6_become_76 : decode cX6_become 76 = .ok (.aload_n 1, 1) := by decide +kernel
theorem dX6_become_77 : decode cX6_become 77 = .ok (.getfield 27, 3) := by decide +kernel
theorem dX6_become_80 : decode cX6_become 80 = .ok (.putfield 27, 3) := by decide +kernel
theorem dX6_become_83 : decode cX6_become 83 = .ok (.aload_n 0, 1) := by decide +kernel
theorem dX6_become_84 : decode cX6_become 84 = .ok (.aload_n 1, 1) := by decide +kernel
theorem dX6_become_85 : decode cX6_become 85 = .ok (.getfield 31, 3) := by decide +kernel
theorem dX6_become_88 : decode cX6_become 88 = .ok (.putfield 31, 3) := by decide +kernel
theorem dX6_become_91 : decode cX6_become 91 = .ok (.aload_n 0, 1) := by decide +kernel
theorem dX6_become_92 : decode cX6_become 92 = .ok (.aload_n 1, 1) := by decide +kernel
theorem dX6_become_93 : decode cX6_become 93 = .ok (.getfield 34, 3) := by decide +kernel
theorem dX6_become_96 : decode cX6_become 96 = .ok (.putfield 34, 3) := by decide +kernel
theorem dX6_become_99 : decode cX6_become 99 = .ok (.return_, 1) := by decide +kernel
theorem dX6_addOne_0 : decode cX6_addOne 0 = .ok (.aload_n 0, 1) := by decide +kernel
theorem dX6_addOne_1 : decode cX6_addOne 1 = .ok (.getfield 27, 3) := by decide +kernel
theorem dX6_addOne_4 : decode cX6_addOne 4 = .ok (.ifCond .lt 12, 3) := by decide +kernel
theorem dX6_addOne_7 : decode cX6_addOne 7 = .ok (.aload_n 0, 1) := by decide +kernel
theorem dX6_addOne_8 : decode cX6_addOne 8 = .ok (.getfield 27, 3) := by decide +kernel
theorem dX6_addOne_11 : decode cX6_addOne 11 = .ok (.bipush 10, 2) := by decide +kernel
theorem dX6_addOne_13 : decode cX6_addOne 13 = .ok (.if_icmp .lt 6, 3) := by decide +kernel
theorem dX6_addOne_16 : decode cX6_addOne 16 = .ok (.bipush (-3), 2) := by decide +kernel
theorem dX6_addOne_18 : decode cX6_addOne 18 = .ok (.ireturn, 1) := by decide +kernel
theorem dX6_addOne_19 : decode cX6_addOne 19 = .ok (.aload_n 0, 1) := by decide +kernel
theorem dX6_addOne_20 : decode cX6_addOne 20 = .ok (.getfield 9, 3) := by decide +kernel
theorem dX6_addOne_23 : decode cX6_addOne 23 = .ok (.aload_n 0, 1) := by decide +kernel
theorem dX6_addOne_24 : decode cX6_addOne 24 = .ok (.getfield 27, 3) := by decide +kernel
theorem dX6_addOne_27 : decode cX6_addOne 27 = .ok (.iload_n 1, 1) := by decide +kernel
theorem dX6_addOne_28 : decode cX6_addOne 28 = .ok (.iastore, 1) := by decide +kernel
theorem dX6_addOne_29 : decode cX6_addOne 29 = .ok (.aload_n 0, 1) := by decide +kernel
theorem dX6_addOne_30 : decode cX6_addOne 30 = .ok (.getfield 15, 3) := by decide +kernel
theorem dX6_addOne_33 : decode cX6_addOne 33 = .ok (.aload_n 0, 1) := by decide +kernel
theorem dX6_addOne_34 : decode cX6_addOne 34 = .ok (.getfield 27, 3) := by decide +kernel
theorem dX6_addOne_37 : decode cX6_addOne 37 = .ok (.iload_n 2, 1) := by decide +kernel
theorem dX6_addOne_38 : decode cX6_addOne 38 = .ok (.iastore, 1) := by decide +kernel
theorem dX6_addOne_39 : decode cX6_addOne 39 = .ok (.aload_n 0, 1) := by decide +kernel
theorem dX6_addOne_40 : decode cX6_addOne 40 = .ok (.getfield 18, 3) := by decide +kernel
theorem dX6_addOne_43 : decode cX6_addOne 43 = .ok (.aload_n 0, 1) := by decide +kernel
theorem dX6_addOne_44 : decode cX6_addOne 44 = .ok (.getfield 27, 3) := by decide +kernel
theorem dX6_addOne_47 : decode cX6_addOne 47 = .ok (.bipush 12, 2) := by decide +kernel
theorem dX6_addOne_49 : decode cX6_addOne 49 = .ok (.iastore, 1) := by decide +kernel
theorem dX6_addOne_50 : decode cX6_addOne 50 = .ok (.aload_n 0, 1) := by decide +kernel
theorem dX6_addOne_51 : decode cX6_addOne 51 = .ok (.getfield 21, 3) := by decide +kernel
theorem dX6_addOne_54 : decode cX6_addOne 54 = .ok (.aload_n 0, 1) := by decide +kernel
theorem dX6_addOne_55 : decode cX6_addOne 55 = .ok (.getfield 27, 3) := by decide +kernel
theorem dX6_addOne_58 : decode cX6_addOne 58 = .ok (.iconst 0, 1) := by decide +kernel
theorem dX6_addOne_59 : decode cX6_addOne 59 = .ok (.iastore, 1) := by decide +kernel
theorem dX6_addOne_60 : decode cX6_addOne 60 = .ok (.aload_n 0, 1) := by decide +kernel
theorem dX6_addOne_61 : decode cX6_addOne 61 = .ok (.dup, 1) := by decide +kernel
theorem dX6_addOne_62 : decode cX6_addOne 62 = .ok (.getfield 27, 3) := by decide +kernel
theorem dX6_addOne_65 : decode cX6_addOne 65 = .ok (.iconst 1, 1) := by decide +kernel
theorem dX6_addOne_66 : decode cX6_addOne 66 = .ok (.iadd, 1) := by decide +kernel
theorem dX6_addOne_67 : decode cX6_addOne 67 = .ok (.putfield 27, 3) := by decide +kernel
theorem dX6_addOne_70 : decode cX6_addOne 70 = .ok (.aload_n 0, 1) := by decide +kernel
theorem dX6_addOne_71 : decode cX6_addOne 71 = .ok (.getfield 27, 3) := by decide +kernel
theorem dX6_addOne_74 : decode cX6_addOne 74 = .ok (.iconst 1, 1) := by decide +kernel
theorem dX6_addOne_75 : decode cX6_addOne 75 = .ok (.isub, 1) := by decide +kernel
theorem dX6_addOne_76 : decode cX6_addOne 76 = .ok (.ireturn, 1) := by decide +kernel
theorem dX6_has_0 : decode cX6_has 0 = .ok (.iload_n 1, 1) := by decide +kernel
theorem dX6_has_1 : decode cX6_has 1 = .ok (.ifCond .lt 15, 3) := by decide +kernel
theorem dX6_has_4 : decode cX6_has 4 = .ok (.iload_n 1, 1) := by decide +kernel
theorem dX6_has_5 : decode cX6_has 5 = .ok (.aload_n 0, 1) := by decide +kernel
theorem dX6_has_6 : decode cX6_has 6 = .ok (.getfield 27, 3) := by decide +kernel
theorem dX6_has_9 : decode cX6_has 9 = .ok (.if_icmp .ge 7, 3) := by decide +kernel
theorem dX6_has_12 : decode cX6_has 12 = .ok (.iconst 1, 1) := by decide +kernel
theorem dX6_has_13 : decode cX6_has 13 = .ok (.goto 4, 3) := by decide +kernel
theorem dX6_has_16 : decode cX6_has 16 = .ok (.iconst 0, 1) := by decide +kernel
theorem dX6_has_17 : decode cX6_has 17 = .ok (.ireturn, 1) := by decide +kernel
theorem dX6_waits_0 : decode cX6_waits 0 = .ok (.aload_n 0, 1) := by decide +kernel
theorem dX6_waits_1 : decode cX6_waits 1 = .ok (.iload_n 1, 1) := by decide +kernel
theorem dX6_waits_2 : decode cX6_waits 2 = .ok (.invokevirtual 43, 3) := by decide +kernel
theorem dX6_waits_5 : decode cX6_waits 5 = .ok (.ifCond .eq 18, 3) := by decide +kernel
theorem dX6_waits_8 : decode cX6_waits 8 = .ok (.aload_n 0, 1) := by decide +kernel
theorem dX6_waits_9 : decode cX6_waits 9 = .ok (.getfield 18, 3) := by decide +kernel
theorem dX6_waits_12 : decode cX6_waits 12 = .ok (.iload_n 1, 1) := by decide +kernel
theorem dX6_waits_13 : decode cX6_waits 13 = .ok (.iaload, 1) := by decide +kernel
theorem dX6_waits_14 : decode cX6_waits 14 = .ok (.bipush 12, 2) := by decide +kernel
theorem dX6_waits_16 : decode cX6_waits 16 = .ok (.if_icmp .ne 7, 3) := by decide +kernel
theorem dX6_waits_19 : decode cX6_waits 19 = .ok (.iconst 1, 1) := by decide +kernel
theorem dX6_waits_20 : decode cX6_waits 20 = .ok (.goto 4, 3) := by decide +kernel
theorem dX6_waits_23 : decode cX6_waits 23 = .ok (.iconst 0, 1) := by decide +kernel
theorem dX6_waits_24 : decode cX6_waits 24 = .ok (.ireturn, 1) := by decide +kernel
theorem dX6_ridesAtFoot_0 : decode cX6_ridesAtFoot 0 = .ok (.aload_n 0, 1) := by decide +kernel
theorem dX6_ridesAtFoot_1 : decode cX6_ridesAtFoot 1 = .ok (.iload_n 1, 1) := by decide +kernel
theorem dX6_ridesAtFoot_2 : decode cX6_ridesAtFoot 2 = .ok (.invokevirtual 43, 3) := by decide +kernel
theorem dX6_ridesAtFoot_5 : decode cX6_ridesAtFoot 5 = .ok (.ifCond .eq 20, 3) := by decide +kernel
theorem dX6_ridesAtFoot_8 : decode cX6_ridesAtFoot 8 = .ok (.aload_n 0, 1) := by decide +kernel
theorem dX6_ridesAtFoot_9 : decode cX6_ridesAtFoot 9 = .ok (.getfield 18, 3) := by decide +kernel
theorem dX6_ridesAtFoot_12 : decode cX6_ridesAtFoot 12 = .ok (.iload_n 1, 1) := by decide +kernel
theorem dX6_ridesAtFoot_13 : decode cX6_ridesAtFoot 13 = .ok (.iaload, 1) := by decide +kernel
theorem dX6_ridesAtFoot_14 : decode cX6_ridesAtFoot 14 = .ok (.aload_n 0, 1) := by decide +kernel
theorem dX6_ridesAtFoot_15 : decode cX6_ridesAtFoot 15 = .ok (.invokevirtual 47, 3) := by decide +kernel
theorem dX6_ridesAtFoot_18 : decode cX6_ridesAtFoot 18 = .ok (.if_icmp .ne 7, 3) := by decide +kernel
theorem dX6_ridesAtFoot_21 : decode cX6_ridesAtFoot 21 = .ok (.iconst 1, 1) := by decide +kernel
theorem dX6_ridesAtFoot_22 : decode cX6_ridesAtFoot 22 = .ok (.goto 4, 3) := by decide +kernel
theorem dX6_ridesAtFoot_25 : decode cX6_ridesAtFoot 25 = .ok (.iconst 0, 1) := by decide +kernel
theorem dX6_ridesAtFoot_26 : decode cX6_ridesAtFoot 26 = .ok (.ireturn, 1) := by decide +kernel
theorem dX6_foot_0 : decode cX6_foot 0 = .ok (.aload_n 0, 1) := by decide +kernel
theorem dX6_foot_1 : decode cX6_foot 1 = .ok (.getfield 31, 3) := by decide +kernel
theorem dX6_foot_4 : decode cX6_foot 4 = .ok (.bipush 12, 2) := by decide +kernel
theorem dX6_foot_6 : decode cX6_foot 6 = .ok (.irem, 1) := by decide +kernel
theorem dX6_foot_7 : decode cX6_foot 7 = .ok (.ireturn, 1) := by decide +kernel
theorem dX6_whoIsAt_0 : decode cX6_whoIsAt 0 = .ok (.iconst 0, 1) := by decide +kernel
theorem dX6_whoIsAt_1 : decode cX6_whoIsAt 1 = .ok (.istore_n 2, 1) := by decide +kernel
theorem dX6_whoIsAt_2 : decode cX6_whoIsAt 2 = .ok (.iconst 0, 1) := by decide +kernel
theorem dX6_whoIsAt_3 : decode cX6_whoIsAt 3 = .ok (.istore_n 3, 1) := by decide +kernel
theorem dX6_whoIsAt_4 : decode cX6_whoIsAt 4 = .ok (.iload_n 3, 1) := by decide +kernel
theorem dX6_whoIsAt_5 : decode cX6_whoIsAt 5 = .ok (.aload_n 0, 1) := by decide +kernel
theorem dX6_whoIsAt_6 : decode cX6_whoIsAt 6 = .ok (.getfield 27, 3) := by decide +kernel
theorem dX6_whoIsAt_9 : decode cX6_whoIsAt 9 = .ok (.if_icmp .ge 25, 3) := by decide +kernel
theorem dX6_whoIsAt_12 : decode cX6_whoIsAt 12 = .ok (.aload_n 0, 1) := by decide +kernel
theorem dX6_whoIsAt_13 : decode cX6_whoIsAt 13 = .ok (.getfield 18, 3) := by decide +kernel
theorem dX6_whoIsAt_16 : decode cX6_whoIsAt 16 = .ok (.iload_n 3, 1) := by decide +kernel
theorem dX6_whoIsAt_17 : decode cX6_whoIsAt 17 = .ok (.iaload, 1) := by decide +kernel
theorem dX6_whoIsAt_18 : decode cX6_whoIsAt 18 = .ok (.iload_n 1, 1) := by decide +kernel
theorem dX6_whoIsAt_19 : decode cX6_whoIsAt 19 = .ok (.if_icmp .ne 9, 3) := by decide +kernel
theorem dX6_whoIsAt_22 : decode cX6_whoIsAt 22 = .ok (.iload_n 2, 1) := by decide +kernel
theorem dX6_whoIsAt_23 : decode cX6_whoIsAt 23 = .ok (.iconst 1, 1) := by decide +kernel
theorem dX6_whoIsAt_24 : decode cX6_whoIsAt 24 = .ok (.iload_n 3, 1) := by decide +kernel
theorem dX6_whoIsAt_25 : decode cX6_whoIsAt 25 = .ok (.ishl, 1) := by decide +kernel
theorem dX6_whoIsAt_26 : decode cX6_whoIsAt 26 = .ok (.ior, 1) := by decide +kernel
theorem dX6_whoIsAt_27 : decode cX6_whoIsAt 27 = .ok (.istore_n 2, 1) := by decide +kernel
theorem dX6_whoIsAt_28 : decode cX6_whoIsAt 28 = .ok (.iinc 3 1, 3) := by decide +kernel
theorem dX6_whoIsAt_31 : decode cX6_whoIsAt 31 = .ok (.goto (-27), 3) := by decide +kernel
theorem dX6_whoIsAt_34 : decode cX6_whoIsAt 34 = .ok (.iload_n 2, 1) := by decide +kernel
theorem dX6_whoIsAt_35 : decode cX6_whoIsAt 35 = .ok (.ireturn, 1) := by decide +kernel
theorem dX6_whoRides_0 : decode cX6_whoRides 0 = .ok (.iconst 0, 1) := by decide +kernel
theorem dX6_whoRides_1 : decode cX6_whoRides 1 = .ok (.istore_n 1, 1) := by decide +kernel
theorem dX6_whoRides_2 : decode cX6_whoRides 2 = .ok (.iconst 0, 1) := by decide +kernel
theorem dX6_whoRides_3 : decode cX6_whoRides 3 = .ok (.istore_n 2, 1) := by decide +kernel
theorem dX6_whoRides_4 : decode cX6_whoRides 4 = .ok (.iload_n 2, 1) := by decide +kernel
theorem dX6_whoRides_5 : decode cX6_whoRides 5 = .ok (.aload_n 0, 1) := by decide +kernel
theorem dX6_whoRides_6 : decode cX6_whoRides 6 = .ok (.getfield 27, 3) := by decide +kernel
theorem dX6_whoRides_9 : decode cX6_whoRides 9 = .ok (.if_icmp .ge 26, 3) := by decide +kernel
theorem dX6_whoRides_12 : decode cX6_whoRides 12 = .ok (.aload_n 0, 1) := by decide +kernel
theorem dX6_whoRides_13 : decode cX6_whoRides 13 = .ok (.getfield 18, 3) := by decide +kernel
theorem dX6_whoRides_16 : decode cX6_whoRides 16 = .ok (.iload_n 2, 1) := by decide +kernel
theorem dX6_whoRides_17 : decode cX6_whoRides 17 = .ok (.iaload, 1) := by decide +kernel
theorem dX6_whoRides_18 : decode cX6_whoRides 18 = .ok (.bipush 12, 2) := by decide +kernel
theorem dX6_whoRides_20 : decode cX6_whoRides 20 = .ok (.if_icmp .ge 9, 3) := by decide +kernel
theorem dX6_whoRides_23 : decode cX6_whoRides 23 = .ok (.iload_n 1, 1) := by decide +kernel
theorem dX6_whoRides_24 : decode cX6_whoRides 24 = .ok (.iconst 1, 1) := by decide +kernel
theorem dX6_whoRides_25 : decode cX6_whoRides 25 = .ok (.iload_n 2, 1) := by decide +kernel
theorem dX6_whoRides_26 : decode cX6_whoRides 26 = .ok (.ishl, 1) := by decide +kernel
theorem dX6_whoRides_27 : decode cX6_whoRides 27 = .ok (.ior, 1) := by decide +kernel
theorem dX6_whoRides_28 : decode cX6_whoRides 28 = .ok (.istore_n 1, 1) := by decide +kernel
theorem dX6_whoRides_29 : decode cX6_whoRides 29 = .ok (.iinc 2 1, 3) := by decide +kernel
theorem dX6_whoRides_32 : decode cX6_whoRides 32 = .ok (.goto (-28), 3) := by decide +kernel
theorem dX6_whoRides_35 : decode cX6_whoRides 35 = .ok (.iload_n 1, 1) := by decide +kernel
theorem dX6_whoRides_36 : decode cX6_whoRides 36 = .ok (.ireturn, 1) := by decide +kernel
theorem dX6_weightOf_0 : decode cX6_weightOf 0 = .ok (.iconst 0, 1) := by decide +kernel
theorem dX6_weightOf_1 : decode cX6_weightOf 1 = .ok (.istore_n 2, 1) := by decide +kernel
theorem dX6_weightOf_2 : decode cX6_weightOf 2 = .ok (.iconst 0, 1) := by decide +kernel
theorem dX6_weightOf_3 : decode cX6_weightOf 3 = .ok (.istore_n 3, 1) := by decide +kernel
theorem dX6_weightOf_4 : decode cX6_weightOf 4 = .ok (.iload_n 3, 1) := by decide +kernel
theorem dX6_weightOf_5 : decode cX6_weightOf 5 = .ok (.aload_n 0, 1) := by decide +kernel
theorem dX6_weightOf_6 : decode cX6_weightOf 6 = .ok (.getfield 27, 3) := by decide +kernel
theorem dX6_weightOf_9 : decode cX6_weightOf 9 = .ok (.if_icmp .ge 26, 3) := by decide +kernel
theorem dX6_weightOf_12 : decode cX6_weightOf 12 = .ok (.iload_n 1, 1) := by decide +kernel
theorem dX6_weightOf_13 : decode cX6_weightOf 13 = .ok (.iload_n 3, 1) := by decide +kernel
theorem dX6_weightOf_14 : decode cX6_weightOf 14 = .ok (.ishr, 1) := by decide +kernel
theorem dX6_weightOf_15 : decode cX6_weightOf 15 = .ok (.iconst 1, 1) := by decide +kernel
theorem dX6_weightOf_16 : decode cX6_weightOf 16 = .ok (.iand, 1) := by decide +kernel
theorem dX6_weightOf_17 : decode cX6_weightOf 17 = .ok (.ifCond .eq 12, 3) := by decide +kernel
theorem dX6_weightOf_20 : decode cX6_weightOf 20 = .ok (.iload_n 2, 1) := by decide +kernel
theorem dX6_weightOf_21 : decode cX6_weightOf 21 = .ok (.aload_n 0, 1) := by decide +kernel
theorem dX6_weightOf_22 : decode cX6_weightOf 22 = .ok (.getfield 15, 3) := by decide +kernel
theorem dX6_weightOf_25 : decode cX6_weightOf 25 = .ok (.iload_n 3, 1) := by decide +kernel
theorem dX6_weightOf_26 : decode cX6_weightOf 26 = .ok (.iaload, 1) := by decide +kernel
theorem dX6_weightOf_27 : decode cX6_weightOf 27 = .ok (.iadd, 1) := by decide +kernel
theorem dX6_weightOf_28 : decode cX6_weightOf 28 = .ok (.istore_n 2, 1) := by decide +kernel
theorem dX6_weightOf_29 : decode cX6_weightOf 29 = .ok (.iinc 3 1, 3) := by decide +kernel
theorem dX6_weightOf_32 : decode cX6_weightOf 32 = .ok (.goto (-28), 3) := by decide +kernel
theorem dX6_weightOf_35 : decode cX6_weightOf 35 = .ok (.iload_n 2, 1) := by decide +kernel
theorem dX6_weightOf_36 : decode cX6_weightOf 36 = .ok (.ireturn, 1) := by decide +kernel
theorem dX6_loadOf_0 : decode cX6_loadOf 0 = .ok (.aload_n 0, 1) := by decide +kernel
theorem dX6_loadOf_1 : decode cX6_loadOf 1 = .ok (.getfield 24, 3) := by decide +kernel
theorem dX6_loadOf_4 : decode cX6_loadOf 4 = .ok (.iload_n 1, 1) := by decide +kernel
theorem dX6_loadOf_5 : decode cX6_loadOf 5 = .ok (.iaload, 1) := by decide +kernel
theorem dX6_loadOf_6 : decode cX6_loadOf 6 = .ok (.aload_n 0, 1) := by decide +kernel
theorem dX6_loadOf_7 : decode cX6_loadOf 7 = .ok (.aload_n 0, 1) := by decide +kernel
theorem dX6_loadOf_8 : decode cX6_loadOf 8 = .ok (.iload_n 1, 1) := by decide +kernel
theorem dX6_loadOf_9 : decode cX6_loadOf 9 = .ok (.invokevirtual 51, 3) := by decide +kernel
theorem dX6_loadOf_12 : decode cX6_loadOf 12 = .ok (.invokevirtual 55, 3) := by decide +kernel
theorem dX6_loadOf_15 : decode cX6_loadOf 15 = .ok (.iadd, 1) := by decide +kernel
theorem dX6_loadOf_16 : decode cX6_loadOf 16 = .ok (.ireturn, 1) := by decide +kernel
theorem dX6_sandTogether_0 : decode cX6_sandTogether 0 = .ok (.iconst 0, 1) := by decide +kernel
theorem dX6_sandTogether_1 : decode cX6_sandTogether 1 = .ok (.istore_n 1, 1) := by decide +kernel
theorem dX6_sandTogether_2 : decode cX6_sandTogether 2 = .ok (.iconst 0, 1) := by decide +kernel
theorem dX6_sandTogether_3 : decode cX6_sandTogether 3 = .ok (.istore_n 2, 1) := by decide +kernel
theorem dX6_sandTogether_4 : decode cX6_sandTogether 4 = .ok (.iload_n 2, 1) := by decide +kernel
theorem dX6_sandTogether_5 : decode cX6_sandTogether 5 = .ok (.bipush 12, 2) := by decide +kernel
theorem dX6_sandTogether_7 : decode cX6_sandTogether 7 = .ok (.if_icmp .ge 18, 3) := by decide +kernel
theorem dX6_sandTogether_10 : decode cX6_sandTogether 10 = .ok (.iload_n 1, 1) := by decide +kernel
theorem dX6_sandTogether_11 : decode cX6_sandTogether 11 = .ok (.aload_n 0, 1) := by decide +kernel
theorem dX6_sandTogether_12 : decode cX6_sandTogether 12 = .ok (.getfield 24, 3) := by decide +kernel
theorem dX6_sandTogether_15 : decode cX6_sandTogether 15 = .ok (.iload_n 2, 1) := by decide +kernel
theorem dX6_sandTogether_16 : decode cX6_sandTogether 16 = .ok (.iaload, 1) := by decide +kernel
theorem dX6_sandTogether_17 : decode cX6_sandTogether 17 = .ok (.iadd, 1) := by decide +kernel
theorem dX6_sandTogether_18 : decode cX6_sandTogether 18 = .ok (.istore_n 1, 1) := by decide +kernel
theorem dX6_sandTogether_19 : decode cX6_sandTogether 19 = .ok (.iinc 2 1, 3) := by decide +kernel
theorem dX6_sandTogether_22 : decode cX6_sandTogether 22 = .ok (.goto (-18), 3) := by decide +kernel
theorem dX6_sandTogether_25 : decode cX6_sandTogether 25 = .ok (.iload_n 1, 1) := by decide +kernel
theorem dX6_sandTogether_26 : decode cX6_sandTogether 26 = .ok (.ireturn, 1) := by decide +kernel
theorem dX6_seatsOf_0 : decode cX6_seatsOf 0 = .ok (.iconst 0, 1) := by decide +kernel
theorem dX6_seatsOf_1 : decode cX6_seatsOf 1 = .ok (.istore_n 2, 1) := by decide +kernel
theorem dX6_seatsOf_2 : decode cX6_seatsOf 2 = .ok (.iconst 0, 1) := by decide +kernel
theorem dX6_seatsOf_3 : decode cX6_seatsOf 3 = .ok (.istore_n 3, 1) := by decide +kernel
theorem dX6_seatsOf_4 : decode cX6_seatsOf 4 = .ok (.iload_n 3, 1) := by decide +kernel
theorem dX6_seatsOf_5 : decode cX6_seatsOf 5 = .ok (.aload_n 0, 1) := by decide +kernel
theorem dX6_seatsOf_6 : decode cX6_seatsOf 6 = .ok (.getfield 27, 3) := by decide +kernel
theorem dX6_seatsOf_9 : decode cX6_seatsOf 9 = .ok (.if_icmp .ge 30, 3) := by decide +kernel
theorem dX6_seatsOf_12 : decode cX6_seatsOf 12 = .ok (.iload_n 1, 1) := by decide +kernel
theorem dX6_seatsOf_13 : decode cX6_seatsOf 13 = .ok (.iload_n 3, 1) := by decide +kernel
theorem dX6_seatsOf_14 : decode cX6_seatsOf 14 = .ok (.ishr, 1) := by decide +kernel
theorem dX6_seatsOf_15 : decode cX6_seatsOf 15 = .ok (.iconst 1, 1) := by decide +kernel
theorem dX6_seatsOf_16 : decode cX6_seatsOf 16 = .ok (.iand, 1) := by decide +kernel
theorem dX6_seatsOf_17 : decode cX6_seatsOf 17 = .ok (.ifCond .eq 16, 3) := by decide +kernel
theorem dX6_seatsOf_20 : decode cX6_seatsOf 20 = .ok (.iload_n 2, 1) := by decide +kernel
theorem dX6_seatsOf_21 : decode cX6_seatsOf 21 = .ok (.getstatic 58, 3) := by decide +kernel
theorem dX6_seatsOf_24 : decode cX6_seatsOf 24 = .ok (.aload_n 0, 1) := by decide +kernel
theorem dX6_seatsOf_25 : decode cX6_seatsOf 25 = .ok (.getfield 9, 3) := by decide +kernel
theorem dX6_seatsOf_28 : decode cX6_seatsOf 28 = .ok (.iload_n 3, 1) := by decide +kernel
theorem dX6_seatsOf_29 : decode cX6_seatsOf 29 = .ok (.iaload, 1) := by decide +kernel
theorem dX6_seatsOf_30 : decode cX6_seatsOf 30 = .ok (.iaload, 1) := by decide +kernel
theorem dX6_seatsOf_31 : decode cX6_seatsOf 31 = .ok (.iadd, 1) := by decide +kernel
theorem dX6_seatsOf_32 : decode cX6_seatsOf 32 = .ok (.istore_n 2, 1) := by decide +kernel
theorem dX6_seatsOf_33 : decode cX6_seatsOf 33 = .ok (.iinc 3 1, 3) := by decide +kernel
theorem dX6_seatsOf_36 : decode cX6_seatsOf 36 = .ok (.goto (-32), 3) := by decide +kernel
theorem dX6_seatsOf_39 : decode cX6_seatsOf 39 = .ok (.iload_n 2, 1) := by decide +kernel
theorem dX6_seatsOf_40 : decode cX6_seatsOf 40 = .ok (.ireturn, 1) := by decide +kernel
theorem dX6_fitTogether_0 : decode cX6_fitTogether 0 = .ok (.iconst 0, 1) := by decide +kernel
theorem dX6_fitTogether_1 : decode cX6_fitTogether 1 = .ok (.istore_n 2, 1) := by decide +kernel
theorem dX6_fitTogether_2 : decode cX6_fitTogether 2 = .ok (.iconst 0, 1) := by decide +kernel
theorem dX6_fitTogether_3 : decode cX6_fitTogether 3 = .ok (.istore_n 3, 1) := by decide +kernel
theorem dX6_fitTogether_4 : decode cX6_fitTogether 4 = .ok (.iconst 0, 1) := by decide +kernel
theorem dX6_fitTogether_5 : decode cX6_fitTogether 5 = .ok (.istore 4, 2) := by decide +kernel
theorem dX6_fitTogether_7 : decode cX6_fitTogether 7 = .ok (.iconst 0, 1) := by decide +kernel
theorem dX6_fitTogether_8 : decode cX6_fitTogether 8 = .ok (.istore 5, 2) := by decide +kernel
theorem dX6_fitTogether_10 : decode cX6_fitTogether 10 = .ok (.iconst 0, 1) := by decide +kernel
theorem dX6_fitTogether_11 : decode cX6_fitTogether 11 = .ok (.istore 6, 2) := by decide +kernel
theorem dX6_fitTogether_13 : decode cX6_fitTogether 13 = .ok (.iload 6, 2) := by decide +kernel
theorem dX6_fitTogether_15 : decode cX6_fitTogether 15 = .ok (.aload_n 0, 1) := by decide +kernel
theorem dX6_fitTogether_16 : decode cX6_fitTogether 16 = .ok (.getfield 27, 3) := by decide +kernel
theorem dX6_fitTogether_19 : decode cX6_fitTogether 19 = .ok (.if_icmp .ge 72, 3) := by decide +kernel
theorem dX6_fitTogether_22 : decode cX6_fitTogether 22 = .ok (.iload_n 1, 1) := by decide +kernel
theorem dX6_fitTogether_23 : decode cX6_fitTogether 23 = .ok (.iload 6, 2) := by decide +kernel
theorem dX6_fitTogether_25 : decode cX6_fitTogether 25 = .ok (.ishr, 1) := by decide +kernel
theorem dX6_fitTogether_26 : decode cX6_fitTogether 26 = .ok (.iconst 1, 1) := by decide +kernel
theorem dX6_fitTogether_27 : decode cX6_fitTogether 27 = .ok (.iand, 1) := by decide +kernel
theorem dX6_fitTogether_28 : decode cX6_fitTogether 28 = .ok (.ifCond .ne 6, 3) := by decide +kernel
theorem dX6_fitTogether_31 : decode cX6_fitTogether 31 = .ok (.goto 54, 3) := by decide +kernel
theorem dX6_fitTogether_34 : decode cX6_fitTogether 34 = .ok (.iload_n 2, 1) := by decide +kernel
theorem dX6_fitTogether_35 : decode cX6_fitTogether 35 = .ok (.getstatic 58, 3) := by decide +kernel
theorem dX6_fitTogether_38 : decode cX6_fitTogether 38 = .ok (.aload_n 0, 1) := by decide +kernel
theorem dX6_fitTogether_39 : decode cX6_fitTogether 39 = .ok (.getfield 9, 3) := by decide +kernel
theorem dX6_fitTogether_42 : decode cX6_fitTogether 42 = .ok (.iload 6, 2) := by decide +kernel
theorem dX6_fitTogether_44 : decode cX6_fitTogether 44 = .ok (.iaload, 1) := by decide +kernel
theorem dX6_fitTogether_45 : decode cX6_fitTogether 45 = .ok (.iaload, 1) := by decide +kernel
theorem dX6_fitTogether_46 : decode cX6_fitTogether 46 = .ok (.iadd, 1) := by decide +kernel
theorem dX6_fitTogether_47 : decode cX6_fitTogether 47 = .ok (.istore_n 2, 1) := by decide +kernel
theorem dX6_fitTogether_48 : decode cX6_fitTogether 48 = .ok (.aload_n 0, 1) := by decide +kernel
theorem dX6_fitTogether_49 : decode cX6_fitTogether 49 = .ok (.getfield 9, 3) := by decide +kernel
theorem dX6_fitTogether_52 : decode cX6_fitTogether 52 = .ok (.iload 6, 2) := by decide +kernel
theorem dX6_fitTogether_54 : decode cX6_fitTogether 54 = .ok (.iaload, 1) := by decide +kernel
theorem dX6_fitTogether_55 : decode cX6_fitTogether 55 = .ok (.iconst 1, 1) := by decide +kernel
theorem dX6_fitTogether_56 : decode cX6_fitTogether 56 = .ok (.if_icmp .ne 9, 3) := by decide +kernel
theorem dX6_fitTogether_59 : decode cX6_fitTogether 59 = .ok (.iinc 3 1, 3) := by decide +kernel
theorem dX6_fitTogether_62 : decode cX6_fitTogether 62 = .ok (.goto 23, 3) := by decide +kernel
theorem dX6_fitTogether_65 : decode cX6_fitTogether 65 = .ok (.aload_n 0, 1) := by decide +kernel
theorem dX6_fitTogether_66 : decode cX6_fitTogether 66 = .ok (.getfield 9, 3) := by decide +kernel
theorem dX6_fitTogether_69 : decode cX6_fitTogether 69 = .ok (.iload 6, 2) := by decide +kernel
theorem dX6_fitTogether_71 : decode cX6_fitTogether 71 = .ok (.iaload, 1) := by decide +kernel
theorem dX6_fitTogether_72 : decode cX6_fitTogether 72 = .ok (.iconst 3, 1) := by decide +kernel
theorem dX6_fitTogether_73 : decode cX6_fitTogether 73 = .ok (.if_icmp .ne 9, 3) := by decide +kernel
theorem dX6_fitTogether_76 : decode cX6_fitTogether 76 = .ok (.iinc 4 1, 3) := by decide +kernel
theorem dX6_fitTogether_79 : decode cX6_fitTogether 79 = .ok (.goto 6, 3) := by decide +kernel
theorem dX6_fitTogether_82 : decode cX6_fitTogether 82 = .ok (.iinc 5 1, 3) := by decide +kernel
theorem dX6_fitTogether_85 : decode cX6_fitTogether 85 = .ok (.iinc 6 1, 3) := by decide +kernel
theorem dX6_fitTogether_88 : decode cX6_fitTogether 88 = .ok (.goto (-75), 3) := by decide +kernel
theorem dX6_fitTogether_91 : decode cX6_fitTogether 91 = .ok (.iload_n 3, 1) := by decide +kernel
theorem dX6_fitTogether_92 : decode cX6_fitTogether 92 = .ok (.ifCond .eq 13, 3) := by decide +kernel
theorem dX6_fitTogether_95 : decode cX6_fitTogether 95 = .ok (.iload 5, 2) := by decide +kernel
theorem dX6_fitTogether_97 : decode cX6_fitTogether 97 = .ok (.ifCond .le 12, 3) := by decide +kernel
theorem dX6_fitTogether_100 : decode cX6_fitTogether 100 = .ok (.iload 4, 2) := by decide +kernel
theorem dX6_fitTogether_102 : decode cX6_fitTogether 102 = .ok (.ifCond .ne 7, 3) := by decide +kernel
theorem dX6_fitTogether_105 : decode cX6_fitTogether 105 = .ok (.iconst 1, 1) := by decide +kernel
theorem dX6_fitTogether_106 : decode cX6_fitTogether 106 = .ok (.goto 4, 3) := by decide +kernel
theorem dX6_fitTogether_109 : decode cX6_fitTogether 109 = .ok (.iconst 0, 1) := by decide +kernel
theorem dX6_fitTogether_110 : decode cX6_fitTogether 110 = .ok (.istore 6, 2) := by decide +kernel
theorem dX6_fitTogether_112 : decode cX6_fitTogether 112 = .ok (.iload 6, 2) := by decide +kernel
theorem dX6_fitTogether_114 : decode cX6_fitTogether 114 = .ok (.ifCond .eq 12, 3) := by decide +kernel
theorem dX6_fitTogether_117 : decode cX6_fitTogether 117 = .ok (.iload_n 2, 1) := by decide +kernel
theorem dX6_fitTogether_118 : decode cX6_fitTogether 118 = .ok (.iconst 3, 1) := by decide +kernel
theorem dX6_fitTogether_119 : decode cX6_fitTogether 119 = .ok (.if_icmp .gt 7, 3) := by decide +kernel
theorem dX6_fitTogether_122 : decode cX6_fitTogether 122 = .ok (.iconst 1, 1) := by decide +kernel
theorem dX6_fitTogether_123 : decode cX6_fitTogether 123 = .ok (.goto 4, 3) := by decide +kernel
theorem dX6_fitTogether_126 : decode cX6_fitTogether 126 = .ok (.iconst 0, 1) := by decide +kernel
theorem dX6_fitTogether_127 : decode cX6_fitTogether 127 = .ok (.ireturn, 1) := by decide +kernel
theorem dX6_weighSand_0 : decode cX6_weighSand 0 = .ok (.aload_n 1, 1) := by decide +kernel
theorem dX6_weighSand_1 : decode cX6_weighSand 1 = .ok (.invokevirtual 61, 3) := by decide +kernel
theorem dX6_weighSand_4 : decode cX6_weighSand 4 = .ok (.iconst 0, 1) := by decide +kernel
theorem dX6_weighSand_5 : decode cX6_weighSand 5 = .ok (.istore_n 2, 1) := by decide +kernel
theorem dX6_weighSand_6 : decode cX6_weighSand 6 = .ok (.iload_n 2, 1) := by decide +kernel
theorem dX6_weighSand_7 : decode cX6_weighSand 7 = .ok (.bipush 12, 2) := by decide +kernel
theorem dX6_weighSand_9 : decode cX6_weighSand 9 = .ok (.if_icmp .ge 20, 3) := by decide +kernel
theorem dX6_weighSand_12 : decode cX6_weighSand 12 = .ok (.aload_n 1, 1) := by decide +kernel
theorem dX6_weighSand_13 : decode cX6_weighSand 13 = .ok (.iload_n 2, 1) := by decide +kernel
theorem dX6_weighSand_14 : decode cX6_weighSand 14 = .ok (.aload_n 0, 1) := by decide +kernel
theorem dX6_weighSand_15 : decode cX6_weighSand 15 = .ok (.getfield 24, 3) := by decide +kernel
theorem dX6_weighSand_18 : decode cX6_weighSand 18 = .ok (.iload_n 2, 1) := by decide +kernel
theorem dX6_weighSand_19 : decode cX6_weighSand 19 = .ok (.iaload, 1) := by decide +kernel
theorem dX6_weighSand_20 : decode cX6_weighSand 20 = .ok (.invokevirtual 66, 3) := by decide +kernel
theorem dX6_weighSand_23 : decode cX6_weighSand 23 = .ok (.iinc 2 1, 3) := by decide +kernel
theorem dX6_weighSand_26 : decode cX6_weighSand 26 = .ok (.goto (-20), 3) := by decide +kernel
theorem dX6_weighSand_29 : decode cX6_weighSand 29 = .ok (.return_, 1) := by decide +kernel
theorem dX6_weighRiders_0 : decode cX6_weighRiders 0 = .ok (.aload_n 1, 1) := by decide +kernel
theorem dX6_weighRiders_1 : decode cX6_weighRiders 1 = .ok (.invokevirtual 61, 3) := by decide +kernel
theorem dX6_weighRiders_4 : decode cX6_weighRiders 4 = .ok (.aload_n 0, 1) := by decide +kernel
theorem dX6_weighRiders_5 : decode cX6_weighRiders 5 = .ok (.aload_n 0, 1) := by decide +kernel
theorem dX6_weighRiders_6 : decode cX6_weighRiders 6 = .ok (.invokevirtual 70, 3) := by decide +kernel
theorem dX6_weighRiders_9 : decode cX6_weighRiders 9 = .ok (.aload_n 1, 1) := by decide +kernel
theorem dX6_weighRiders_10 : decode cX6_weighRiders 10 = .ok (.invokevirtual 73, 3) := by decide +kernel
theorem dX6_weighRiders_13 : decode cX6_weighRiders 13 = .ok (.return_, 1) := by decide +kernel
theorem dX6_weighAll_0 : decode cX6_weighAll 0 = .ok (.aload_n 0, 1) := by decide +kernel
theorem dX6_weighAll_1 : decode cX6_weighAll 1 = .ok (.aload_n 1, 1) := by decide +kernel
theorem dX6_weighAll_2 : decode cX6_weighAll 2 = .ok (.invokevirtual 77, 3) := by decide +kernel
theorem dX6_weighAll_5 : decode cX6_weighAll 5 = .ok (.aload_n 0, 1) := by decide +kernel
theorem dX6_weighAll_6 : decode cX6_weighAll 6 = .ok (.aload_n 0, 1) := by decide +kernel
theorem dX6_weighAll_7 : decode cX6_weighAll 7 = .ok (.invokevirtual 70, 3) := by decide +kernel
theorem dX6_weighAll_10 : decode cX6_weighAll 10 = .ok (.aload_n 1, 1) := by decide +kernel
theorem dX6_weighAll_11 : decode cX6_weighAll 11 = .ok (.invokevirtual 73, 3) := by decide +kernel
theorem dX6_weighAll_14 : decode cX6_weighAll 14 = .ok (.return_, 1) := by decide +kernel
theorem dX6_hangThese_0 : decode cX6_hangThese 0 = .ok (.iconst 0, 1) := by decide +kernel
theorem dX6_hangThese_1 : decode cX6_hangThese 1 = .ok (.istore_n 3, 1) := by decide +kernel
theorem dX6_hangThese_2 : decode cX6_hangThese 2 = .ok (.iload_n 3, 1) := by decide +kernel
theorem dX6_hangThese_3 : decode cX6_hangThese 3 = .ok (.aload_n 0, 1) := by decide +kernel
theorem dX6_hangThese_4 : decode cX6_hangThese 4 = .ok (.getfield 27, 3) := by decide +kernel
theorem dX6_hangThese_7 : decode cX6_hangThese 7 = .ok (.if_icmp .ge 33, 3) := by decide +kernel
theorem dX6_hangThese_10 : decode cX6_hangThese 10 = .ok (.iload_n 1, 1) := by decide +kernel
theorem dX6_hangThese_11 : decode cX6_hangThese 11 = .ok (.iload_n 3, 1) := by decide +kernel
theorem dX6_hangThese_12 : decode cX6_hangThese 12 = .ok (.ishr, 1) := by decide +kernel
theorem dX6_hangThese_13 : decode cX6_hangThese 13 = .ok (.iconst 1, 1) := by decide +kernel
theorem dX6_hangThese_14 : decode cX6_hangThese 14 = .ok (.iand, 1) := by decide +kernel
theorem dX6_hangThese_15 : decode cX6_hangThese 15 = .ok (.ifCond .eq 19, 3) := by decide +kernel
theorem dX6_hangThese_18 : decode cX6_hangThese 18 = .ok (.aload_n 2, 1) := by decide +kernel
theorem dX6_hangThese_19 : decode cX6_hangThese 19 = .ok (.aload_n 0, 1) := by decide +kernel
theorem dX6_hangThese_20 : decode cX6_hangThese 20 = .ok (.getfield 18, 3) := by decide +kernel
theorem dX6_hangThese_23 : decode cX6_hangThese 23 = .ok (.iload_n 3, 1) := by decide +kernel
theorem dX6_hangThese_24 : decode cX6_hangThese 24 = .ok (.iaload, 1) := by decide +kernel
theorem dX6_hangThese_25 : decode cX6_hangThese 25 = .ok (.aload_n 0, 1) := by decide +kernel
theorem dX6_hangThese_26 : decode cX6_hangThese 26 = .ok (.getfield 15, 3) := by decide +kernel
theorem dX6_hangThese_29 : decode cX6_hangThese 29 = .ok (.iload_n 3, 1) := by decide +kernel
theorem dX6_hangThese_30 : decode cX6_hangThese 30 = .ok (.iaload, 1) := by decide +kernel
theorem dX6_hangThese_31 : decode cX6_hangThese 31 = .ok (.invokevirtual 66, 3) := by decide +kernel
theorem dX6_hangThese_34 : decode cX6_hangThese 34 = .ok (.iinc 3 1, 3) := by decide +kernel
theorem dX6_hangThese_37 : decode cX6_hangThese 37 = .ok (.goto (-35), 3) := by decide +kernel
theorem dX6_hangThese_40 : decode cX6_hangThese 40 = .ok (.return_, 1) := by decide +kernel
theorem dX6_mayGetIn_0 : decode cX6_mayGetIn 0 = .ok (.aload_n 0, 1) := by decide +kernel
theorem dX6_mayGetIn_1 : decode cX6_mayGetIn 1 = .ok (.aload_n 0, 1) := by decide +kernel
theorem dX6_mayGetIn_2 : decode cX6_mayGetIn 2 = .ok (.aload_n 0, 1) := by decide +kernel
theorem dX6_mayGetIn_3 : decode cX6_mayGetIn 3 = .ok (.invokevirtual 47, 3) := by decide +kernel
theorem dX6_mayGetIn_6 : decode cX6_mayGetIn 6 = .ok (.invokevirtual 51, 3) := by decide +kernel
theorem dX6_mayGetIn_9 : decode cX6_mayGetIn 9 = .ok (.iconst 1, 1) := by decide +kernel
theorem dX6_mayGetIn_10 : decode cX6_mayGetIn 10 = .ok (.iload_n 1, 1) := by decide +kernel
theorem dX6_mayGetIn_11 : decode cX6_mayGetIn 11 = .ok (.ishl, 1) := by decide +kernel
theorem dX6_mayGetIn_12 : decode cX6_mayGetIn 12 = .ok (.ior, 1) := by decide +kernel
theorem dX6_mayGetIn_13 : decode cX6_mayGetIn 13 = .ok (.invokevirtual 81, 3) := by decide +kernel
theorem dX6_mayGetIn_16 : decode cX6_mayGetIn 16 = .ok (.ifCond .ne 5, 3) := by decide +kernel
theorem dX6_mayGetIn_19 : decode cX6_mayGetIn 19 = .ok (.iconst 0, 1) := by decide +kernel
theorem dX6_mayGetIn_20 : decode cX6_mayGetIn 20 = .ok (.ireturn, 1) := by decide +kernel
theorem dX6_mayGetIn_21 : decode cX6_mayGetIn 21 = .ok (.aload_n 0, 1) := by decide +kernel
theorem dX6_mayGetIn_22 : decode cX6_mayGetIn 22 = .ok (.aload_n 2, 1) := by decide +kernel
theorem dX6_mayGetIn_23 : decode cX6_mayGetIn 23 = .ok (.invokevirtual 84, 3) := by decide +kernel
theorem dX6_mayGetIn_26 : decode cX6_mayGetIn 26 = .ok (.aload_n 2, 1) := by decide +kernel
theorem dX6_mayGetIn_27 : decode cX6_mayGetIn 27 = .ok (.aload_n 0, 1) := by decide +kernel
theorem dX6_mayGetIn_28 : decode cX6_mayGetIn 28 = .ok (.invokevirtual 47, 3) := by decide +kernel
theorem dX6_mayGetIn_31 : decode cX6_mayGetIn 31 = .ok (.aload_n 0, 1) := by decide +kernel
theorem dX6_mayGetIn_32 : decode cX6_mayGetIn 32 = .ok (.getfield 15, 3) := by decide +kernel
theorem dX6_mayGetIn_35 : decode cX6_mayGetIn 35 = .ok (.iload_n 1, 1) := by decide +kernel
theorem dX6_mayGetIn_36 : decode cX6_mayGetIn 36 = .ok (.iaload, 1) := by decide +kernel
theorem dX6_mayGetIn_37 : decode cX6_mayGetIn 37 = .ok (.invokevirtual 66, 3) := by decide +kernel
theorem dX6_mayGetIn_40 : decode cX6_mayGetIn 40 = .ok (.aload_n 2, 1) := by decide +kernel
theorem dX6_mayGetIn_41 : decode cX6_mayGetIn 41 = .ok (.aload_n 0, 1) := by decide +kernel
theorem dX6_mayGetIn_42 : decode cX6_mayGetIn 42 = .ok (.getfield 34, 3) := by decide +kernel
theorem dX6_mayGetIn_45 : decode cX6_mayGetIn 45 = .ok (.invokevirtual 87, 3) := by decide +kernel
theorem dX6_mayGetIn_48 : decode cX6_mayGetIn 48 = .ok (.ireturn, 1) := by decide +kernel
theorem dX6_mayGetOut_0 : decode cX6_mayGetOut 0 = .ok (.aload_n 0, 1) := by decide +kernel
theorem dX6_mayGetOut_1 : decode cX6_mayGetOut 1 = .ok (.aload_n 0, 1) := by decide +kernel
theorem dX6_mayGetOut_2 : decode cX6_mayGetOut 2 = .ok (.aload_n 0, 1) := by decide +kernel
theorem dX6_mayGetOut_3 : decode cX6_mayGetOut 3 = .ok (.invokevirtual 47, 3) := by decide +kernel
theorem dX6_mayGetOut_6 : decode cX6_mayGetOut 6 = .ok (.invokevirtual 51, 3) := by decide +kernel
theorem dX6_mayGetOut_9 : decode cX6_mayGetOut 9 = .ok (.iconst 1, 1) := by decide +kernel
theorem dX6_mayGetOut_10 : decode cX6_mayGetOut 10 = .ok (.iload_n 1, 1) := by decide +kernel
theorem dX6_mayGetOut_11 : decode cX6_mayGetOut 11 = .ok (.ishl, 1) := by decide +kernel
theorem dX6_mayGetOut_12 : decode cX6_mayGetOut 12 = .ok (.iconst (-1), 1) := by decide +kernel
theorem dX6_mayGetOut_13 : decode cX6_mayGetOut 13 = .ok (.ixor, 1) := by decide +kernel
theorem dX6_mayGetOut_14 : decode cX6_mayGetOut 14 = .ok (.iand, 1) := by decide +kernel
theorem dX6_mayGetOut_15 : decode cX6_mayGetOut 15 = .ok (.invokevirtual 81, 3) := by decide +kernel
theorem dX6_mayGetOut_18 : decode cX6_mayGetOut 18 = .ok (.ifCond .ne 5, 3) := by decide +kernel
theorem dX6_mayGetOut_21 : decode cX6_mayGetOut 21 = .ok (.iconst 0, 1) := by decide +kernel
theorem dX6_mayGetOut_22 : decode cX6_mayGetOut 22 = .ok (.ireturn, 1) := by decide +kernel
theorem dX6_mayGetOut_23 : decode cX6_mayGetOut 23 = .ok (.aload_n 0, 1) := by decide +kernel
theorem dX6_mayGetOut_24 : decode cX6_mayGetOut 24 = .ok (.aload_n 2, 1) := by decide +kernel
theorem dX6_mayGetOut_25 : decode cX6_mayGetOut 25 = .ok (.invokevirtual 84, 3) := by decide +kernel
theorem dX6_mayGetOut_28 : decode cX6_mayGetOut 28 = .ok (.aload_n 2, 1) := by decide +kernel
theorem dX6_mayGetOut_29 : decode cX6_mayGetOut 29 = .ok (.aload_n 0, 1) := by decide +kernel
theorem dX6_mayGetOut_30 : decode cX6_mayGetOut 30 = .ok (.invokevirtual 47, 3) := by decide +kernel
theorem dX6_mayGetOut_33 : decode cX6_mayGetOut 33 = .ok (.aload_n 0, 1) := by decide +kernel
theorem dX6_mayGetOut_34 : decode cX6_mayGetOut 34 = .ok (.getfield 15, 3) := by decide +kernel
theorem dX6_mayGetOut_37 : decode cX6_mayGetOut 37 = .ok (.iload_n 1, 1) := by decide +kernel
theorem dX6_mayGetOut_38 : decode cX6_mayGetOut 38 = .ok (.iaload, 1) := by decide +kernel
theorem dX6_mayGetOut_39 : decode cX6_mayGetOut 39 = .ok (.ineg, 1) := by decide +kernel
theorem dX6_mayGetOut_40 : decode cX6_mayGetOut 40 = .ok (.invokevirtual 66, 3) := by decide +kernel
theorem dX6_mayGetOut_43 : decode cX6_mayGetOut 43 = .ok (.aload_n 2, 1) := by decide +kernel
theorem dX6_mayGetOut_44 : decode cX6_mayGetOut 44 = .ok (.aload_n 0, 1) := by decide +kernel
theorem dX6_mayGetOut_45 : decode cX6_mayGetOut 45 = .ok (.getfield 34, 3) := by decide +kernel
theorem dX6_mayGetOut_48 : decode cX6_mayGetOut 48 = .ok (.invokevirtual 87, 3) := by decide +kernel
theorem dX6_mayGetOut_51 : decode cX6_mayGetOut 51 = .ok (.ireturn, 1) := by decide +kernel
theorem dX6_mayHaveSand_0 : decode cX6_mayHaveSand 0 = .ok (.aload_n 0, 1) := by decide +kernel
theorem dX6_mayHaveSand_1 : decode cX6_mayHaveSand 1 = .ok (.aload_n 2, 1) := by decide +kernel
theorem dX6_mayHaveSand_2 : decode cX6_mayHaveSand 2 = .ok (.invokevirtual 84, 3) := by decide +kernel
theorem dX6_mayHaveSand_5 : decode cX6_mayHaveSand 5 = .ok (.aload_n 2, 1) := by decide +kernel
theorem dX6_mayHaveSand_6 : decode cX6_mayHaveSand 6 = .ok (.aload_n 0, 1) := by decide +kernel
theorem dX6_mayHaveSand_7 : decode cX6_mayHaveSand 7 = .ok (.invokevirtual 47, 3) := by decide +kernel
theorem dX6_mayHaveSand_10 : decode cX6_mayHaveSand 10 = .ok (.iload_n 1, 1) := by decide +kernel
theorem dX6_mayHaveSand_11 : decode cX6_mayHaveSand 11 = .ok (.aload_n 0, 1) := by decide +kernel
theorem dX6_mayHaveSand_12 : decode cX6_mayHaveSand 12 = .ok (.getfield 24, 3) := by decide +kernel
theorem dX6_mayHaveSand_15 : decode cX6_mayHaveSand 15 = .ok (.aload_n 0, 1) := by decide +kernel
theorem dX6_mayHaveSand_16 : decode cX6_mayHaveSand 16 = .ok (.invokevirtual 47, 3) := by decide +kernel
theorem dX6_mayHaveSand_19 : decode cX6_mayHaveSand 19 = .ok (.iaload, 1) := by decide +kernel
theorem dX6_mayHaveSand_20 : decode cX6_mayHaveSand 20 = .ok (.isub, 1) := by decide +kernel
theorem dX6_mayHaveSand_21 : decode cX6_mayHaveSand 21 = .ok (.invokevirtual 66, 3) := by decide +kernel
theorem dX6_mayHaveSand_24 : decode cX6_mayHaveSand 24 = .ok (.aload_n 2, 1) := by decide +kernel
theorem dX6_mayHaveSand_25 : decode cX6_mayHaveSand 25 = .ok (.aload_n 0, 1) := by decide +kernel
theorem dX6_mayHaveSand_26 : decode cX6_mayHaveSand 26 = .ok (.getfield 34, 3) := by decide +kernel
theorem dX6_mayHaveSand_29 : decode cX6_mayHaveSand 29 = .ok (.invokevirtual 87, 3) := by decide +kernel
theorem dX6_mayHaveSand_32 : decode cX6_mayHaveSand 32 = .ok (.ireturn, 1) := by decide +kernel
theorem dX6_getIn_0 : decode cX6_getIn 0 = .ok (.aload_n 0, 1) := by decide +kernel
theorem dX6_getIn_1 : decode cX6_getIn 1 = .ok (.getfield 18, 3) := by decide +kernel
theorem dX6_getIn_4 : decode cX6_getIn 4 = .ok (.iload_n 1, 1) := by decide +kernel
theorem dX6_getIn_5 : decode cX6_getIn 5 = .ok (.aload_n 0, 1) := by decide +kernel
theorem dX6_getIn_6 : decode cX6_getIn 6 = .ok (.invokevirtual 47, 3) := by decide +kernel
theorem dX6_getIn_9 : decode cX6_getIn 9 = .ok (.iastore, 1) := by decide +kernel
theorem dX6_getIn_10 : decode cX6_getIn 10 = .ok (.aload_n 0, 1) := by decide +kernel
theorem dX6_getIn_11 : decode cX6_getIn 11 = .ok (.getfield 21, 3) := by decide +kernel
theorem dX6_getIn_14 : decode cX6_getIn 14 = .ok (.iload_n 1, 1) := by decide +kernel
theorem dX6_getIn_15 : decode cX6_getIn 15 = .ok (.aload_n 0, 1) := by decide +kernel
theorem dX6_getIn_16 : decode cX6_getIn 16 = .ok (.getfield 31, 3) := by decide +kernel
theorem dX6_getIn_19 : decode cX6_getIn 19 = .ok (.iastore, 1) := by decide +kernel
theorem dX6_getIn_20 : decode cX6_getIn 20 = .ok (.return_, 1) := by decide +kernel
theorem dX6_getOut_0 : decode cX6_getOut 0 = .ok (.aload_n 0, 1) := by decide +kernel
theorem dX6_getOut_1 : decode cX6_getOut 1 = .ok (.getfield 18, 3) := by decide +kernel
theorem dX6_getOut_4 : decode cX6_getOut 4 = .ok (.iload_n 1, 1) := by decide +kernel
theorem dX6_getOut_5 : decode cX6_getOut 5 = .ok (.bipush 13, 2) := by decide +kernel
theorem dX6_getOut_7 : decode cX6_getOut 7 = .ok (.iastore, 1) := by decide +kernel
theorem dX6_getOut_8 : decode cX6_getOut 8 = .ok (.return_, 1) := by decide +kernel
theorem dX7_init_0 : decode cX7_init 0 = .ok (.aload_n 0, 1) := by decide +kernel
theorem dX7_init_1 : decode cX7_init 1 = .ok (.invokespecial 1, 3) := by decide +kernel
theorem dX7_init_4 : decode cX7_init 4 = .ok (.aload_n 0, 1) := by decide +kernel
theorem dX7_init_5 : decode cX7_init 5 = .ok (.new 7, 3) := by decide +kernel
theorem dX7_init_8 : decode cX7_init 8 = .ok (.dup, 1) := by decide +kernel
theorem dX7_init_9 : decode cX7_init 9 = .ok (.invokespecial 9, 3) := by decide +kernel
theorem dX7_init_12 : decode cX7_init 12 = .ok (.putfield 10, 3) := by decide +kernel
theorem dX7_init_15 : decode cX7_init 15 = .ok (.aload_n 0, 1) := by decide +kernel
theorem dX7_init_16 : decode cX7_init 16 = .ok (.new 7, 3) := by decide +kernel
theorem dX7_init_19 : decode cX7_init 19 = .ok (.dup, 1) := by decide +kernel
theorem dX7_init_20 : decode cX7_init 20 = .ok (.invokespecial 9, 3) := by decide +kernel
theorem dX7_init_23 : decode cX7_init 23 = .ok (.putfield 16, 3) := by decide +kernel
theorem dX7_init_26 : decode cX7_init 26 = .ok (.aload_n 0, 1) := by decide +kernel
theorem dX7_init_27 : decode cX7_init 27 = .ok (.new 19, 3) := by decide +kernel
theorem dX7_init_30 : decode cX7_init 30 = .ok (.dup, 1) := by decide +kernel
theorem dX7_init_31 : decode cX7_init 31 = .ok (.invokespecial 21, 3) := by decide +kernel
theorem dX7_init_34 : decode cX7_init 34 = .ok (.putfield 22, 3) := by decide +kernel
theorem dX7_init_37 : decode cX7_init 37 = .ok (.aload_n 0, 1) := by decide +kernel
theorem dX7_init_38 : decode cX7_init 38 = .ok (.new 26, 3) := by decide +kernel
theorem dX7_init_41 : decode cX7_init 41 = .ok (.dup, 1) := by decide +kernel
theorem dX7_init_42 : decode cX7_init 42 = .ok (.aload_n 0, 1) := by decide +kernel
theorem dX7_init_43 : decode cX7_init 43 = .ok (.getfield 10, 3) := by decide +kernel
theorem dX7_init_46 : decode cX7_init 46 = .ok (.invokespecial 28, 3) := by decide +kernel
theorem dX7_init_49 : decode cX7_init 49 = .ok (.putfield 31, 3) := by decide +kernel
theorem dX7_init_52 : decode cX7_init 52 = .ok (.aload_n 0, 1) := by decide +kernel
theorem dX7_init_53 : decode cX7_init 53 = .ok (.new 35, 3) := by decide +kernel
theorem dX7_init_56 : decode cX7_init 56 = .ok (.dup, 1) := by decide +kernel
theorem dX7_init_57 : decode cX7_init 57 = .ok (.aload_n 0, 1) := by decide +kernel
theorem dX7_init_58 : decode cX7_init 58 = .ok (.getfield 10, 3) := by decide +kernel
theorem dX7_init_61 : decode cX7_init 61 = .ok (.invokespecial 37, 3) := by decide +kernel
theorem dX7_init_64 : decode cX7_init 64 = .ok (.putfield 38, 3) := by decide +kernel
theorem dX7_init_67 : decode cX7_init 67 = .ok (.aload_n 0, 1) := by decide +kernel
theorem dX7_init_68 : decode cX7_init 68 = .ok (.new 42, 3) := by decide +kernel
theorem dX7_init_71 : decode cX7_init 71 = .ok (.dup, 1) := by decide +kernel
theorem dX7_init_72 : decode cX7_init 72 = .ok (.aload_n 0, 1) := by decide +kernel
theorem dX7_init_73 : decode cX7_init 73 = .ok (.getfield 10, 3) := by decide +kernel
theorem dX7_init_76 : decode cX7_init 76 = .ok (.invokespecial 44, 3) := by decide +kernel
theorem dX7_init_79 : decode cX7_init 79 = .ok (.putfield 45, 3) := by decide +kernel
theorem dX7_init_82 : decode cX7_init 82 = .ok (.aload_n 0, 1) := by decide +kernel
theorem dX7_init_83 : decode cX7_init 83 = .ok (.new 49, 3) := by decide +kernel
theorem dX7_init_86 : decode cX7_init 86 = .ok (.dup, 1) := by decide +kernel
theorem dX7_init_87 : decode cX7_init 87 = .ok (.invokespecial 51, 3) := by decide +kernel
theorem dX7_init_90 : decode cX7_init 90 = .ok (.putfield 52, 3) := by decide +kernel
theorem dX7_init_93 : decode cX7_init 93 = .ok (.aload_n 0, 1) := by decide +kernel
theorem dX7_init_94 : decode cX7_init 94 = .ok (.iconst 4, 1) := by decide +kernel
theorem dX7_init_95 : decode cX7_init 95 = .ok (.anewarray 56, 3) := by decide +kernel
theorem dX7_init_98 : decode cX7_init 98 = .ok (.putfield 58, 3) := by decide +kernel
theorem dX7_init_101 : decode cX7_init 101 = .ok (.iconst 0, 1) := by decide +kernel
theorem dX7_init_102 : decode cX7_init 102 = .ok (.istore_n 1, 1) := by decide +kernel
theorem dX7_init_103 : decode cX7_init 103 = .ok (.iload_n 1, 1) := by decide +kernel
theorem dX7_init_104 : decode cX7_init 104 = .ok (.iconst 4, 1) := by decide +kernel
theorem dX7_init_105 : decode cX7_init 105 = .ok (.if_icmp .ge 22, 3) := by decide +kernel
theorem dX7_init_108 : decode cX7_init 108 = .ok (.aload_n 0, 1) := by decide +kernel
theorem dX7_init_109 : decode cX7_init 109 = .ok (.getfield 58, 3) := by decide +kernel
theorem dX7_init_112 : decode cX7_init 112 = .ok (.iload_n 1, 1) := by decide +kernel
theorem dX7_init_113 : decode cX7_init 113 = .ok (.new 56, 3) := by decide +kernel
theorem dX7_init_116 : decode cX7_init 116 = .ok (.dup, 1) := by decide +kernel
theorem dX7_init_117 : decode cX7_init 117 = .ok (.invokespecial 62, 3) := by decide +kernel
theorem dX7_init_120 : decode cX7_init 120 = .ok (.aastore, 1) := by decide +kernel
theorem dX7_init_121 : decode cX7_init 121 = .ok (.iinc 1 1, 3) := by decide +kernel
theorem dX7_init_124 : decode cX7_init 124 = .ok (.goto (-21), 3) := by decide +kernel
theorem dX7_init_127 : decode cX7_init 127 = .ok (.aload_n 0, 1) := by decide +kernel
theorem dX7_init_128 : decode cX7_init 128 = .ok (.bipush 12, 2) := by decide +kernel
theorem dX7_init_130 : decode cX7_init 130 = .ok (.newarray .int, 2) := by decide +kernel
theorem dX7_init_132 : decode cX7_init 132 = .ok (.putfield 63, 3) := by decide +kernel
theorem dX7_init_135 : decode cX7_init 135 = .ok (.aload_n 0, 1) := by decide +kernel
theorem dX7_init_136 : decode cX7_init 136 = .ok (.iconst 0, 1) := by decide +kernel
theorem dX7_init_137 : decode cX7_init 137 = .ok (.putfield 67, 3) := by decide +kernel
theorem dX7_init_140 : decode cX7_init 140 = .ok (.return_, 1) := by decide +kernel
theorem dX7_person_0 : decode cX7_person 0 = .ok (.iload_n 1, 1) := by decide +kernel
theorem dX7_person_1 : decode cX7_person 1 = .ok (.ifCond .lt 19, 3) := by decide +kernel
theorem dX7_person_4 : decode cX7_person 4 = .ok (.iload_n 1, 1) := by decide +kernel
theorem dX7_person_5 : decode cX7_person 5 = .ok (.iconst 4, 1) := by decide +kernel
theorem dX7_person_6 : decode cX7_person 6 = .ok (.if_icmp .ge 14, 3) := by decide +kernel
theorem dX7_person_9 : decode cX7_person 9 = .ok (.iload_n 2, 1) := by decide +kernel
theorem dX7_person_10 : decode cX7_person 10 = .ok (.iconst 1, 1) := by decide +kernel
theorem dX7_person_11 : decode cX7_person 11 = .ok (.if_icmp .lt 9, 3) := by decide +kernel
theorem dX7_person_14 : decode cX7_person 14 = .ok (.iload_n 2, 1) := by decide +kernel
theorem dX7_person_15 : decode cX7_person 15 = .ok (.bipush 99, 2) := by decide +kernel
theorem dX7_person_17 : decode cX7_person 17 = .ok (.if_icmp .le 5, 3) := by decide +kernel
theorem dX7_person_20 : decode cX7_person 20 = .ok (.iconst (-1), 1) := by decide +kernel
theorem dX7_person_21 : decode cX7_person 21 = .ok (.ireturn, 1) := by decide +kernel
theorem dX7_person_22 : decode cX7_person 22 = .ok (.aload_n 0, 1) := by decide +kernel
theorem dX7_person_23 : decode cX7_person 23 = .ok (.getfield 10, 3) := by decide +kernel
theorem dX7_person_26 : decode cX7_person 26 = .ok (.getfield 71, 3) := by decide +kernel
theorem dX7_person_29 : decode cX7_person 29 = .ok (.bipush 10, 2) := by decide +kernel
theorem dX7_person_31 : decode cX7_person 31 = .ok (.if_icmp .lt 6, 3) := by decide +kernel
theorem dX7_person_34 : decode cX7_person 34 = .ok (.bipush (-3), 2) := by decide +kernel
theorem dX7_person_36 : decode cX7_person 36 = .ok (.ireturn, 1) := by decide +kernel
theorem dX7_person_37 : decode cX7_person 37 = .ok (.aload_n 0, 1) := by decide +kernel
theorem dX7_person_38 : decode cX7_person 38 = .ok (.getfield 10, 3) := by decide +kernel
theorem dX7_person_41 : decode cX7_person 41 = .ok (.iload_n 1, 1) := by decide +kernel
theorem dX7_person_42 : decode cX7_person 42 = .ok (.iload_n 2, 1) := by decide +kernel
theorem dX7_person_43 : decode cX7_person 43 = .ok (.invokevirtual 75, 3) := by decide +kernel
theorem dX7_person_46 : decode cX7_person 46 = .ok (.ireturn, 1) := by decide +kernel
theorem dX7_told_0 : decode cX7_told 0 = .ok (.aload_n 0, 1) := by decide +kernel
theorem dX7_told_1 : decode cX7_told 1 = .ok (.getfield 10, 3) := by decide +kernel
theorem dX7_told_4 : decode cX7_told 4 = .ok (.iload_n 1, 1) := by decide +kernel
theorem dX7_told_5 : decode cX7_told 5 = .ok (.invokevirtual 79, 3) := by decide +kernel
theorem dX7_told_8 : decode cX7_told 8 = .ok (.ifCond .ne 5, 3) := by decide +kernel
theorem dX7_told_11 : decode cX7_told 11 = .ok (.iconst (-1), 1) := by decide +kernel
theorem dX7_told_12 : decode cX7_told 12 = .ok (.ireturn, 1) := by decide +kernel
theorem dX7_told_13 : decode cX7_told 13 = .ok (.iload_n 2, 1) := by decide +kernel
theorem dX7_told_14 : decode cX7_told 14 = .ok (.tableswitch 89 0 3 #[30, 40, 50, 60], 30) := by decide +kernel
theorem dX7_told_44 : decode cX7_told 44 = .ok (.aload_n 0, 1) := by decide +kernel
theorem dX7_told_45 : decode cX7_told 45 = .ok (.getfield 10, 3) := by decide +kernel
theorem dX7_told_48 : decode cX7_told 48 = .ok (.getfield 83, 3) := by decide +kernel
theorem dX7_told_51 : decode cX7_told 51 = .ok (.iload_n 1, 1) := by decide +kernel
theorem dX7_told_52 : decode cX7_told 52 = .ok (.iaload, 1) := by decide +kernel
theorem dX7_told_53 : decode cX7_told 53 = .ok (.ireturn, 1) := by decide +kernel
theorem dX7_told_54 : decode cX7_told 54 = .ok (.aload_n 0, 1) := by decide +kernel
theorem dX7_told_55 : decode cX7_told 55 = .ok (.getfield 10, 3) := by decide +kernel
theorem dX7_told_58 : decode cX7_told 58 = .ok (.getfield 86, 3) := by decide +kernel
theorem dX7_told_61 : decode cX7_told 61 = .ok (.iload_n 1, 1) := by decide +kernel
theorem dX7_told_62 : decode cX7_told 62 = .ok (.iaload, 1) := by decide +kernel
theorem dX7_told_63 : decode cX7_told 63 = .ok (.ireturn, 1) := by decide +kernel
theorem dX7_told_64 : decode cX7_told 64 = .ok (.aload_n 0, 1) := by decide +kernel
theorem dX7_told_65 : decode cX7_told 65 = .ok (.getfield 10, 3) := by decide +kernel
theorem dX7_told_68 : decode cX7_told 68 = .ok (.getfield 89, 3) := by decide +kernel
theorem dX7_told_71 : decode cX7_told 71 = .ok (.iload_n 1, 1) := by decide +kernel
theorem dX7_told_72 : decode cX7_told 72 = .ok (.iaload, 1) := by decide +kernel
theorem dX7_told_73 : decode cX7_told 73 = .ok (.ireturn, 1) := by decide +kernel
theorem dX7_told_74 : decode cX7_told 74 = .ok (.aload_n 0, 1) := by decide +kernel
theorem dX7_told_75 : decode cX7_told 75 = .ok (.getfield 10, 3) := by decide +kernel
theorem dX7_told_78 : decode cX7_told 78 = .ok (.getfield 89, 3) := by decide +kernel
theorem dX7_told_81 : decode cX7_told 81 = .ok (.iload_n 1, 1) := by decide +kernel
theorem dX7_told_82 : decode cX7_told 82 = .ok (.iaload, 1) := by decide +kernel
theorem dX7_told_83 : decode cX7_told 83 = .ok (.bipush 12, 2) := by decide +kernel
theorem dX7_told_85 : decode cX7_told 85 = .ok (.if_icmp .ne 8, 3) := by decide +kernel
theorem dX7_told_88 : decode cX7_told 88 = .ok (.bipush (-4), 2) := by decide +kernel
theorem dX7_told_90 : decode cX7_told 90 = .ok (.goto 12, 3) := by decide +kernel
theorem dX7_told_93 : decode cX7_told 93 = .ok (.aload_n 0, 1) := by decide +kernel
theorem dX7_told_94 : decode cX7_told 94 = .ok (.getfield 10, 3) := by decide +kernel
theorem dX7_told_97 : decode cX7_told 97 = .ok (.getfield 92, 3) := by decide +kernel
theorem dX7_told_100 : decode cX7_told 100 = .ok (.iload_n 1, 1) := by decide +kernel
theorem dX7_told_101 : decode cX7_told 101 = .ok (.iaload, 1) := by decide +kernel
theorem dX7_told_102 : decode cX7_told 102 = .ok (.ireturn, 1) := by decide +kernel
theorem dX7_told_103 : decode cX7_told 103 = .ok (.iconst (-1), 1) := by decide +kernel
theorem dX7_told_104 : decode cX7_told 104 = .ok (.ireturn, 1) := by decide +kernel
theorem dX7_car_0 : decode cX7_car 0 = .ok (.iload_n 1, 1) := by decide +kernel
theorem dX7_car_1 : decode cX7_car 1 = .ok (.ifCond .lt 9, 3) := by decide +kernel
theorem dX7_car_4 : decode cX7_car 4 = .ok (.iload_n 1, 1) := by decide +kernel
theorem dX7_car_5 : decode cX7_car 5 = .ok (.bipush 12, 2) := by decide +kernel
theorem dX7_car_7 : decode cX7_car 7 = .ok (.if_icmp .lt 5, 3) := by decide +kernel
theorem dX7_car_10 : decode cX7_car 10 = .ok (.iconst (-1), 1) := by decide +kernel
theorem dX7_car_11 : decode cX7_car 11 = .ok (.ireturn, 1) := by decide +kernel
theorem dX7_car_12 : decode cX7_car 12 = .ok (.aload_n 0, 1) := by decide +kernel
theorem dX7_car_13 : decode cX7_car 13 = .ok (.getfield 10, 3) := by decide +kernel
theorem dX7_car_16 : decode cX7_car 16 = .ok (.iload_n 1, 1) := by decide +kernel
theorem dX7_car_17 : decode cX7_car 17 = .ok (.invokevirtual 95, 3) := by decide +kernel
theorem dX7_car_20 : decode cX7_car 20 = .ok (.istore_n 3, 1) := by decide +kernel
theorem dX7_car_21 : decode cX7_car 21 = .ok (.iload_n 2, 1) := by decide +kernel
theorem dX7_car_22 : decode cX7_car 22 = .ok (.tableswitch 60 0 3 #[30, 39, 48, 58], 30) := by decide +kernel
theorem dX7_car_52 : decode cX7_car 52 = .ok (.aload_n 0, 1) := by decide +kernel
theorem dX7_car_53 : decode cX7_car 53 = .ok (.getfield 10, 3) := by decide +kernel
theorem dX7_car_56 : decode cX7_car 56 = .ok (.iload_n 1, 1) := by decide +kernel
theorem dX7_car_57 : decode cX7_car 57 = .ok (.invokevirtual 99, 3) := by decide +kernel
theorem dX7_car_60 : decode cX7_car 60 = .ok (.ireturn, 1) := by decide +kernel
theorem dX7_car_61 : decode cX7_car 61 = .ok (.aload_n 0, 1) := by decide +kernel
theorem dX7_car_62 : decode cX7_car 62 = .ok (.getfield 10, 3) := by decide +kernel
theorem dX7_car_65 : decode cX7_car 65 = .ok (.iload_n 3, 1) := by decide +kernel
theorem dX7_car_66 : decode cX7_car 66 = .ok (.invokevirtual 102, 3) := by decide +kernel
theorem dX7_car_69 : decode cX7_car 69 = .ok (.ireturn, 1) := by decide +kernel
theorem dX7_car_70 : decode cX7_car 70 = .ok (.aload_n 0, 1) := by decide +kernel
theorem dX7_car_71 : decode cX7_car 71 = .ok (.getfield 10, 3) := by decide +kernel
theorem dX7_car_74 : decode cX7_car 74 = .ok (.getfield 105, 3) := by decide +kernel
theorem dX7_car_77 : decode cX7_car 77 = .ok (.iload_n 1, 1) := by decide +kernel
theorem dX7_car_78 : decode cX7_car 78 = .ok (.iaload, 1) := by decide +kernel
theorem dX7_car_79 : decode cX7_car 79 = .ok (.ireturn, 1) := by decide +kernel
theorem dX7_car_80 : decode cX7_car 80 = .ok (.iload_n 3, 1) := by decide +kernel
theorem dX7_car_81 : decode cX7_car 81 = .ok (.ireturn, 1) := by decide +kernel
theorem dX7_car_82 : decode cX7_car 82 = .ok (.iconst (-1), 1) := by decide +kernel
theorem dX7_car_83 : decode cX7_car 83 = .ok (.ireturn, 1) := by decide +kernel
theorem dX7_limit_0 : decode cX7_limit 0 = .ok (.iload_n 1, 1) := by decide +kernel
theorem dX7_limit_1 : decode cX7_limit 1 = .ok (.ifCond .lt 10, 3) := by decide +kernel
theorem dX7_limit_4 : decode cX7_limit 4 = .ok (.iload_n 1, 1) := by decide +kernel
theorem dX7_limit_5 : decode cX7_limit 5 = .ok (.sipush 999, 3) := by decide +kernel
theorem dX7_limit_8 : decode cX7_limit 8 = .ok (.if_icmp .le 5, 3) := by decide +kernel
theorem dX7_limit_11 : decode cX7_limit 11 = .ok (.iconst (-1), 1) := by decide +kernel
theorem dX7_limit_12 : decode cX7_limit 12 = .ok (.ireturn, 1) := by decide +kernel
theorem dX7_limit_13 : decode cX7_limit 13 = .ok (.aload_n 0, 1) := by decide +kernel
theorem dX7_limit_14 : decode cX7_limit 14 = .ok (.getfield 10, 3) := by decide +kernel
theorem dX7_limit_17 : decode cX7_limit 17 = .ok (.aload_n 0, 1) := by decide +kernel
theorem dX7_limit_18 : decode cX7_limit 18 = .ok (.getfield 52, 3) := by decide +kernel
theorem dX7_limit_21 : decode cX7_limit 21 = .ok (.invokevirtual 108, 3) := by decide +kernel
theorem dX7_limit_24 : decode cX7_limit 24 = .ok (.aload_n 0, 1) := by decide +kernel
theorem dX7_limit_25 : decode cX7_limit 25 = .ok (.getfield 52, 3) := by decide +kernel
theorem dX7_limit_28 : decode cX7_limit 28 = .ok (.iload_n 1, 1) := by decide +kernel
theorem dX7_limit_29 : decode cX7_limit 29 = .ok (.invokevirtual 112, 3) := by decide +kernel
theorem dX7_limit_32 : decode cX7_limit 32 = .ok (.ifCond .ne 6, 3) := by decide +kernel
theorem dX7_limit_35 : decode cX7_limit 35 = .ok (.bipush (-2), 2) := by decide +kernel
theorem dX7_limit_37 : decode cX7_limit 37 = .ok (.ireturn, 1) := by decide +kernel
theorem dX7_limit_38 : decode cX7_limit 38 = .ok (.aload_n 0, 1) := by decide +kernel
theorem dX7_limit_39 : decode cX7_limit 39 = .ok (.getfield 10, 3) := by decide +kernel
theorem dX7_limit_42 : decode cX7_limit 42 = .ok (.getfield 115, 3) := by decide +kernel
theorem dX7_limit_45 : decode cX7_limit 45 = .ok (.istore_n 2, 1) := by decide +kernel
theorem dX7_limit_46 : decode cX7_limit 46 = .ok (.aload_n 0, 1) := by decide +kernel
theorem dX7_limit_47 : decode cX7_limit 47 = .ok (.getfield 10, 3) := by decide +kernel
theorem dX7_limit_50 : decode cX7_limit 50 = .ok (.iload_n 1, 1) := by decide +kernel
theorem dX7_limit_51 : decode cX7_limit 51 = .ok (.putfield 115, 3) := by decide +kernel
theorem dX7_limit_54 : decode cX7_limit 54 = .ok (.iload_n 2, 1) := by decide +kernel
theorem dX7_limit_55 : decode cX7_limit 55 = .ok (.ireturn, 1) := by decide +kernel
theorem dX7_out_0 : decode cX7_out 0 = .ok (.aload_n 0, 1) := by decide +kernel
theorem dX7_out_1 : decode cX7_out 1 = .ok (.getfield 10, 3) := by decide +kernel
theorem dX7_out_4 : decode cX7_out 4 = .ok (.aload_n 0, 1) := by decide +kernel
theorem dX7_out_5 : decode cX7_out 5 = .ok (.getfield 52, 3) := by decide +kernel
theorem dX7_out_8 : decode cX7_out 8 = .ok (.invokevirtual 108, 3) := by decide +kernel
theorem dX7_out_11 : decode cX7_out 11 = .ok (.iload_n 1, 1) := by decide +kernel
theorem dX7_out_12 : decode cX7_out 12 = .ok (.tableswitch 90 0 5 #[40, 48, 56, 64, 72, 81], 40) := by decide +kernel
theorem dX7_out_52 : decode cX7_out 52 = .ok (.aload_n 0, 1) := by decide +kernel
theorem dX7_out_53 : decode cX7_out 53 = .ok (.getfield 52, 3) := by decide +kernel
theorem dX7_out_56 : decode cX7_out 56 = .ok (.getfield 118, 3) := by decide +kernel
theorem dX7_out_59 : decode cX7_out 59 = .ok (.ireturn, 1) := by decide +kernel
theorem dX7_out_60 : decode cX7_out 60 = .ok (.aload_n 0, 1) := by decide +kernel
theorem dX7_out_61 : decode cX7_out 61 = .ok (.getfield 52, 3) := by decide +kernel
theorem dX7_out_64 : decode cX7_out 64 = .ok (.getfield 121, 3) := by decide +kernel
theorem dX7_out_67 : decode cX7_out 67 = .ok (.ireturn, 1) := by decide +kernel
theorem dX7_out_68 : decode cX7_out 68 = .ok (.aload_n 0, 1) := by decide +kernel
theorem dX7_out_69 : decode cX7_out 69 = .ok (.getfield 52, 3) := by decide +kernel
theorem dX7_out_72 : decode cX7_out 72 = .ok (.getfield 124, 3) := by decide +kernel
theorem dX7_out_75 : decode cX7_out 75 = .ok (.ireturn, 1) := by decide +kernel
theorem dX7_out_76 : decode cX7_out 76 = .ok (.aload_n 0, 1) := by decide +kernel
theorem dX7_out_77 : decode cX7_out 77 = .ok (.getfield 52, 3) := by decide +kernel
theorem dX7_out_80 : decode cX7_out 80 = .ok (.getfield 127, 3) := by decide +kernel
theorem dX7_out_83 : decode cX7_out 83 = .ok (.ireturn, 1) := by decide +kernel
theorem dX7_out_84 : decode cX7_out 84 = .ok (.aload_n 0, 1) := by decide +kernel
theorem dX7_out_85 : decode cX7_out 85 = .ok (.getfield 52, 3) := by decide +kernel
theorem dX7_out_88 : decode cX7_out 88 = .ok (.invokevirtual 130, 3) := by decide +kernel
theorem dX7_out_91 : decode cX7_out 91 = .ok (.l2i, 1) := by decide +kernel
theorem dX7_out_92 : decode cX7_out 92 = .ok (.ireturn, 1) := by decide +kernel
theorem dX7_out_93 : decode cX7_out 93 = .ok (.aload_n 0, 1) := by decide +kernel
theorem dX7_out_94 : decode cX7_out 94 = .ok (.getfield 52, 3) := by decide +kernel
theorem dX7_out_97 : decode cX7_out 97 = .ok (.invokevirtual 134, 3) := by decide +kernel
theorem dX7_out_100 : decode cX7_out 100 = .ok (.l2i, 1) := by decide +kernel
theorem dX7_out_101 : decode cX7_out 101 = .ok (.ireturn, 1) := by decide +kernel
theorem dX7_out_102 : decode cX7_out 102 = .ok (.ldc 137, 2) := by decide +kernel
theorem dX7_out_104 : decode cX7_out 104 = .ok (.ireturn, 1) := by decide +kernel
theorem dX7_type_0 : decode cX7_type 0 = .ok (.iload_n 3, 1) := by decide +kernel
theorem dX7_type_1 : decode cX7_type 1 = .ok (.iconst 1, 1) := by decide +kernel
theorem dX7_type_2 : decode cX7_type 2 = .ok (.if_icmp .lt 9, 3) := by decide +kernel
theorem dX7_type_5 : decode cX7_type 5 = .ok (.iload_n 3, 1) := by decide +kernel
theorem dX7_type_6 : decode cX7_type 6 = .ok (.bipush 8, 2) := by decide +kernel
theorem dX7_type_8 : decode cX7_type 8 = .ok (.if_icmp .le 5, 3) := by decide +kernel
theorem dX7_type_11 : decode cX7_type 11 = .ok (.iconst (-1), 1) := by decide +kernel
theorem dX7_type_12 : decode cX7_type 12 = .ok (.ireturn, 1) := by decide +kernel
theorem dX7_type_13 : decode cX7_type 13 = .ok (.iconst 0, 1) := by decide +kernel
theorem dX7_type_14 : decode cX7_type 14 = .ok (.istore 4, 2) := by decide +kernel
theorem dX7_type_16 : decode cX7_type 16 = .ok (.iload 4, 2) := by decide +kernel
theorem dX7_type_18 : decode cX7_type 18 = .ok (.iload_n 3, 1) := by decide +kernel
theorem dX7_type_19 : decode cX7_type 19 = .ok (.if_icmp .ge 23, 3) := by decide +kernel
theorem dX7_type_22 : decode cX7_type 22 = .ok (.lload_n 1, 1) := by decide +kernel
theorem dX7_type_23 : decode cX7_type 23 = .ok (.iload 4, 2) := by decide +kernel
theorem dX7_type_25 : decode cX7_type 25 = .ok (.invokestatic 138, 3) := by decide +kernel
theorem dX7_type_28 : decode cX7_type 28 = .ok (.invokestatic 142, 3) := by decide +kernel
theorem dX7_type_31 : decode cX7_type 31 = .ok (.ifCond .ne 5, 3) := by decide +kernel
theorem dX7_type_34 : decode cX7_type 34 = .ok (.iconst (-1), 1) := by decide +kernel
theorem dX7_type_35 : decode cX7_type 35 = .ok (.ireturn, 1) := by decide +kernel
theorem dX7_type_36 : decode cX7_type 36 = .ok (.iinc 4 1, 3) := by decide +kernel
theorem dX7_type_39 : decode cX7_type 39 = .ok (.goto (-23), 3) := by decide +kernel
theorem dX7_type_42 : decode cX7_type 42 = .ok (.aload_n 0, 1) := by decide +kernel
theorem dX7_type_43 : decode cX7_type 43 = .ok (.getfield 22, 3) := by decide +kernel
theorem dX7_type_46 : decode cX7_type 46 = .ok (.getfield 145, 3) := by decide +kernel
theorem dX7_type_49 : decode cX7_type 49 = .ok (.iload_n 3, 1) := by decide +kernel
theorem dX7_type_50 : decode cX7_type 50 = .ok (.iadd, 1) := by decide +kernel
theorem dX7_type_51 : decode cX7_type 51 = .ok (.bipush 120, 2) := by decide +kernel
theorem dX7_type_53 : decode cX7_type 53 = .ok (.if_icmp .le 6, 3) := by decide +kernel
theorem dX7_type_56 : decode cX7_type 56 = .ok (.bipush (-3), 2) := by decide +kernel
theorem dX7_type_58 : decode cX7_type 58 = .ok (.ireturn, 1) := by decide +kernel
theorem dX7_type_59 : decode cX7_type 59 = .ok (.iload_n 3, 1) := by decide +kernel
theorem dX7_type_60 : decode cX7_type 60 = .ok (.iconst 1, 1) := by decide +kernel
theorem dX7_type_61 : decode cX7_type 61 = .ok (.isub, 1) := by decide +kernel
theorem dX7_type_62 : decode cX7_type 62 = .ok (.istore 4, 2) := by decide +kernel
theorem dX7_type_64 : decode cX7_type 64 = .ok (.iload 4, 2) := by decide +kernel
theorem dX7_type_66 : decode cX7_type 66 = .ok (.ifCond .lt 22, 3) := by decide +kernel
theorem dX7_type_69 : decode cX7_type 69 = .ok (.aload_n 0, 1) := by decide +kernel
theorem dX7_type_70 : decode cX7_type 70 = .ok (.getfield 22, 3) := by decide +kernel
theorem dX7_type_73 : decode cX7_type 73 = .ok (.lload_n 1, 1) := by decide +kernel
theorem dX7_type_74 : decode cX7_type 74 = .ok (.iload 4, 2) := by decide +kernel
theorem dX7_type_76 : decode cX7_type 76 = .ok (.invokestatic 138, 3) := by decide +kernel
theorem dX7_type_79 : decode cX7_type 79 = .ok (.invokevirtual 148, 3) := by decide +kernel
theorem dX7_type_82 : decode cX7_type 82 = .ok (.iinc 4 (-1), 3) := by decide +kernel
theorem dX7_type_85 : decode cX7_type 85 = .ok (.goto (-21), 3) := by decide +kernel
theorem dX7_type_88 : decode cX7_type 88 = .ok (.aload_n 0, 1) := by decide +kernel
theorem dX7_type_89 : decode cX7_type 89 = .ok (.getfield 22, 3) := by decide +kernel
theorem dX7_type_92 : decode cX7_type 92 = .ok (.getfield 145, 3) := by decide +kernel
theorem dX7_type_95 : decode cX7_type 95 = .ok (.ireturn, 1) := by decide +kernel
theorem dX7_people_0 : decode cX7_people 0 = .ok (.aload_n 0, 1) := by decide +kernel
theorem dX7_people_1 : decode cX7_people 1 = .ok (.getfield 22, 3) := by decide +kernel
theorem dX7_people_4 : decode cX7_people 4 = .ok (.invokevirtual 152, 3) := by decide +kernel
theorem dX7_people_7 : decode cX7_people 7 = .ok (.istore_n 1, 1) := by decide +kernel
theorem dX7_people_8 : decode cX7_people 8 = .ok (.aload_n 0, 1) := by decide +kernel
theorem dX7_people_9 : decode cX7_people 9 = .ok (.getfield 22, 3) := by decide +kernel
theorem dX7_people_12 : decode cX7_people 12 = .ok (.iconst 0, 1) := by decide +kernel
theorem dX7_people_13 : decode cX7_people 13 = .ok (.putfield 145, 3) := by decide +kernel
theorem dX7_people_16 : decode cX7_people 16 = .ok (.iload_n 1, 1) := by decide +kernel
theorem dX7_people_17 : decode cX7_people 17 = .ok (.ifCond .ge 5, 3) := by decide +kernel
theorem dX7_people_20 : decode cX7_people 20 = .ok (.iload_n 1, 1) := by decide +kernel
theorem dX7_people_21 : decode cX7_people 21 = .ok (.ireturn, 1) := by decide +kernel
theorem dX7_people_22 : decode cX7_people 22 = .ok (.aload_n 0, 1) := by decide +kernel
theorem dX7_people_23 : decode cX7_people 23 = .ok (.getfield 10, 3) := by decide +kernel
theorem dX7_people_26 : decode cX7_people 26 = .ok (.aload_n 0, 1) := by decide +kernel
theorem dX7_people_27 : decode cX7_people 27 = .ok (.getfield 52, 3) := by decide +kernel
theorem dX7_people_30 : decode cX7_people 30 = .ok (.invokevirtual 156, 3) := by decide +kernel
theorem dX7_people_33 : decode cX7_people 33 = .ok (.aload_n 0, 1) := by decide +kernel
theorem dX7_people_34 : decode cX7_people 34 = .ok (.getfield 52, 3) := by decide +kernel
theorem dX7_people_37 : decode cX7_people 37 = .ok (.aload_n 0, 1) := by decide +kernel
theorem dX7_people_38 : decode cX7_people 38 = .ok (.getfield 10, 3) := by decide +kernel
theorem dX7_people_41 : decode cX7_people 41 = .ok (.getfield 115, 3) := by decide +kernel
theorem dX7_people_44 : decode cX7_people 44 = .ok (.invokevirtual 112, 3) := by decide +kernel
theorem dX7_people_47 : decode cX7_people 47 = .ok (.ifCond .ne 6, 3) := by decide +kernel
theorem dX7_people_50 : decode cX7_people 50 = .ok (.bipush (-2), 2) := by decide +kernel
theorem dX7_people_52 : decode cX7_people 52 = .ok (.ireturn, 1) := by decide +kernel
theorem dX7_people_53 : decode cX7_people 53 = .ok (.aload_n 0, 1) := by decide +kernel
theorem dX7_people_54 : decode cX7_people 54 = .ok (.getfield 10, 3) := by decide +kernel
theorem dX7_people_57 : decode cX7_people 57 = .ok (.iconst 0, 1) := by decide +kernel
theorem dX7_people_58 : decode cX7_people 58 = .ok (.putfield 71, 3) := by decide +kernel
theorem dX7_people_61 : decode cX7_people 61 = .ok (.iconst 0, 1) := by decide +kernel
theorem dX7_people_62 : decode cX7_people 62 = .ok (.istore_n 2, 1) := by decide +kernel
theorem dX7_people_63 : decode cX7_people 63 = .ok (.iload_n 2, 1) := by decide +kernel
theorem dX7_people_64 : decode cX7_people 64 = .ok (.iload_n 1, 1) := by decide +kernel
theorem dX7_people_65 : decode cX7_people 65 = .ok (.if_icmp .ge 35, 3) := by decide +kernel
theorem dX7_people_68 : decode cX7_people 68 = .ok (.aload_n 0, 1) := by decide +kernel
theorem dX7_people_69 : decode cX7_people 69 = .ok (.getfield 10, 3) := by decide +kernel
theorem dX7_people_72 : decode cX7_people 72 = .ok (.aload_n 0, 1) := by decide +kernel
theorem dX7_people_73 : decode cX7_people 73 = .ok (.getfield 22, 3) := by decide +kernel
theorem dX7_people_76 : decode cX7_people 76 = .ok (.getfield 159, 3) := by decide +kernel
theorem dX7_people_79 : decode cX7_people 79 = .ok (.iload_n 2, 1) := by decide +kernel
theorem dX7_people_80 : decode cX7_people 80 = .ok (.iaload, 1) := by decide +kernel
theorem dX7_people_81 : decode cX7_people 81 = .ok (.aload_n 0, 1) := by decide +kernel
theorem dX7_people_82 : decode cX7_people 82 = .ok (.getfield 22, 3) := by decide +kernel
theorem dX7_people_85 : decode cX7_people 85 = .ok (.getfield 162, 3) := by decide +kernel
theorem dX7_people_88 : decode cX7_people 88 = .ok (.iload_n 2, 1) := by decide +kernel
theorem dX7_people_89 : decode cX7_people 89 = .ok (.iaload, 1) := by decide +kernel
theorem dX7_people_90 : decode cX7_people 90 = .ok (.invokevirtual 75, 3) := by decide +kernel
theorem dX7_people_93 : decode cX7_people 93 = .ok (.pop, 1) := by decide +kernel
theorem dX7_people_94 : decode cX7_people 94 = .ok (.iinc 2 1, 3) := by decide +kernel
theorem dX7_people_97 : decode cX7_people 97 = .ok (.goto (-34), 3) := by decide +kernel
theorem dX7_people_100 : decode cX7_people 100 = .ok (.iload_n 1, 1) := by decide +kernel
theorem dX7_people_101 : decode cX7_people 101 = .ok (.ireturn, 1) := by decide +kernel
theorem dX7_evening_0 : decode cX7_evening 0 = .ok (.aload_n 0, 1) := by decide +kernel
theorem dX7_evening_1 : decode cX7_evening 1 = .ok (.getfield 22, 3) := by decide +kernel
theorem dX7_evening_4 : decode cX7_evening 4 = .ok (.invokevirtual 165, 3) := by decide +kernel
theorem dX7_evening_7 : decode cX7_evening 7 = .ok (.istore_n 1, 1) := by decide +kernel
theorem dX7_evening_8 : decode cX7_evening 8 = .ok (.aload_n 0, 1) := by decide +kernel
theorem dX7_evening_9 : decode cX7_evening 9 = .ok (.getfield 22, 3) := by decide +kernel
theorem dX7_evening_12 : decode cX7_evening 12 = .ok (.iconst 0, 1) := by decide +kernel
theorem dX7_evening_13 : decode cX7_evening 13 = .ok (.putfield 145, 3) := by decide +kernel
theorem dX7_evening_16 : decode cX7_evening 16 = .ok (.iconst 0, 1) := by decide +kernel
theorem dX7_evening_17 : decode cX7_evening 17 = .ok (.istore_n 2, 1) := by decide +kernel
theorem dX7_evening_18 : decode cX7_evening 18 = .ok (.iload_n 2, 1) := by decide +kernel
theorem dX7_evening_19 : decode cX7_evening 19 = .ok (.iload_n 1, 1) := by decide +kernel
theorem dX7_evening_20 : decode cX7_evening 20 = .ok (.if_icmp .ge 36, 3) := by decide +kernel
theorem dX7_evening_23 : decode cX7_evening 23 = .ok (.aload_n 0, 1) := by decide +kernel
theorem dX7_evening_24 : decode cX7_evening 24 = .ok (.aload_n 0, 1) := by decide +kernel
theorem dX7_evening_25 : decode cX7_evening 25 = .ok (.getfield 22, 3) := by decide +kernel
theorem dX7_evening_28 : decode cX7_evening 28 = .ok (.getfield 159, 3) := by decide +kernel
theorem dX7_evening_31 : decode cX7_evening 31 = .ok (.iload_n 2, 1) := by decide +kernel
theorem dX7_evening_32 : decode cX7_evening 32 = .ok (.iaload, 1) := by decide +kernel
theorem dX7_evening_33 : decode cX7_evening 33 = .ok (.aload_n 0, 1) := by decide +kernel
theorem dX7_evening_34 : decode cX7_evening 34 = .ok (.getfield 22, 3) := by decide +kernel
theorem dX7_evening_37 : decode cX7_evening 37 = .ok (.getfield 162, 3) := by decide +kernel
theorem dX7_evening_40 : decode cX7_evening 40 = .ok (.iload_n 2, 1) := by decide +kernel
theorem dX7_evening_41 : decode cX7_evening 41 = .ok (.iaload, 1) := by decide +kernel
theorem dX7_evening_42 : decode cX7_evening 42 = .ok (.invokevirtual 168, 3) := by decide +kernel
theorem dX7_evening_45 : decode cX7_evening 45 = .ok (.ifCond .ne 5, 3) := by decide +kernel
theorem dX7_evening_48 : decode cX7_evening 48 = .ok (.iload_n 2, 1) := by decide +kernel
theorem dX7_evening_49 : decode cX7_evening 49 = .ok (.ireturn, 1) := by decide +kernel
theorem dX7_evening_50 : decode cX7_evening 50 = .ok (.iinc 2 1, 3) := by decide +kernel
theorem dX7_evening_53 : decode cX7_evening 53 = .ok (.goto (-35), 3) := by decide +kernel
theorem dX7_evening_56 : decode cX7_evening 56 = .ok (.iload_n 1, 1) := by decide +kernel
theorem dX7_evening_57 : decode cX7_evening 57 = .ok (.ireturn, 1) := by decide +kernel
theorem dX7_count_0 : decode cX7_count 0 = .ok (.iload_n 1, 1) := by decide +kernel
theorem dX7_count_1 : decode cX7_count 1 = .ok (.tableswitch 103 0 6 #[43, 51, 59, 67, 77, 85, 95], 43) := by decide +kernel
theorem dX7_count_44 : decode cX7_count 44 = .ok (.aload_n 0, 1) := by decide +kernel
theorem dX7_count_45 : decode cX7_count 45 = .ok (.getfield 10, 3) := by decide +kernel
theorem dX7_count_48 : decode cX7_count 48 = .ok (.getfield 71, 3) := by decide +kernel
theorem dX7_count_51 : decode cX7_count 51 = .ok (.ireturn, 1) := by decide +kernel
theorem dX7_count_52 : decode cX7_count 52 = .ok (.aload_n 0, 1) := by decide +kernel
theorem dX7_count_53 : decode cX7_count 53 = .ok (.getfield 10, 3) := by decide +kernel
theorem dX7_count_56 : decode cX7_count 56 = .ok (.getfield 172, 3) := by decide +kernel
theorem dX7_count_59 : decode cX7_count 59 = .ok (.ireturn, 1) := by decide +kernel
theorem dX7_count_60 : decode cX7_count 60 = .ok (.aload_n 0, 1) := by decide +kernel
theorem dX7_count_61 : decode cX7_count 61 = .ok (.getfield 10, 3) := by decide +kernel
theorem dX7_count_64 : decode cX7_count 64 = .ok (.invokevirtual 175, 3) := by decide +kernel
theorem dX7_count_67 : decode cX7_count 67 = .ok (.ireturn, 1) := by decide +kernel
theorem dX7_count_68 : decode cX7_count 68 = .ok (.aload_n 0, 1) := by decide +kernel
theorem dX7_count_69 : decode cX7_count 69 = .ok (.getfield 10, 3) := by decide +kernel
theorem dX7_count_72 : decode cX7_count 72 = .ok (.bipush 12, 2) := by decide +kernel
theorem dX7_count_74 : decode cX7_count 74 = .ok (.invokevirtual 95, 3) := by decide +kernel
theorem dX7_count_77 : decode cX7_count 77 = .ok (.ireturn, 1) := by decide +kernel
theorem dX7_count_78 : decode cX7_count 78 = .ok (.aload_n 0, 1) := by decide +kernel
theorem dX7_count_79 : decode cX7_count 79 = .ok (.getfield 10, 3) := by decide +kernel
theorem dX7_count_82 : decode cX7_count 82 = .ok (.invokevirtual 178, 3) := by decide +kernel
theorem dX7_count_85 : decode cX7_count 85 = .ok (.ireturn, 1) := by decide +kernel
theorem dX7_count_86 : decode cX7_count 86 = .ok (.aload_n 0, 1) := by decide +kernel
theorem dX7_count_87 : decode cX7_count 87 = .ok (.getfield 10, 3) := by decide +kernel
theorem dX7_count_90 : decode cX7_count 90 = .ok (.bipush 13, 2) := by decide +kernel
theorem dX7_count_92 : decode cX7_count 92 = .ok (.invokevirtual 95, 3) := by decide +kernel
theorem dX7_count_95 : decode cX7_count 95 = .ok (.ireturn, 1) := by decide +kernel
theorem dX7_count_96 : decode cX7_count 96 = .ok (.aload_n 0, 1) := by decide +kernel
theorem dX7_count_97 : decode cX7_count 97 = .ok (.getfield 10, 3) := by decide +kernel
theorem dX7_count_100 : decode cX7_count 100 = .ok (.invokevirtual 181, 3) := by decide +kernel
theorem dX7_count_103 : decode cX7_count 103 = .ok (.ireturn, 1) := by decide +kernel
theorem dX7_count_104 : decode cX7_count 104 = .ok (.iconst (-1), 1) := by decide +kernel
theorem dX7_count_105 : decode cX7_count 105 = .ok (.ireturn, 1) := by decide +kernel
theorem dX7_board_0 : decode cX7_board 0 = .ok (.aload_n 0, 1) := by decide +kernel
theorem dX7_board_1 : decode cX7_board 1 = .ok (.getfield 10, 3) := by decide +kernel
theorem dX7_board_4 : decode cX7_board 4 = .ok (.iload_n 1, 1) := by decide +kernel
theorem dX7_board_5 : decode cX7_board 5 = .ok (.invokevirtual 184, 3) := by decide +kernel
theorem dX7_board_8 : decode cX7_board 8 = .ok (.ifCond .ne 5, 3) := by decide +kernel
theorem dX7_board_11 : decode cX7_board 11 = .ok (.iconst (-1), 1) := by decide +kernel
theorem dX7_board_12 : decode cX7_board 12 = .ok (.ireturn, 1) := by decide +kernel
theorem dX7_board_13 : decode cX7_board 13 = .ok (.aload_n 0, 1) := by decide +kernel
theorem dX7_board_14 : decode cX7_board 14 = .ok (.getfield 10, 3) := by decide +kernel
theorem dX7_board_17 : decode cX7_board 17 = .ok (.iload_n 1, 1) := by decide +kernel
theorem dX7_board_18 : decode cX7_board 18 = .ok (.aload_n 0, 1) := by decide +kernel
theorem dX7_board_19 : decode cX7_board 19 = .ok (.getfield 52, 3) := by decide +kernel
theorem dX7_board_22 : decode cX7_board 22 = .ok (.invokevirtual 187, 3) := by decide +kernel
theorem dX7_board_25 : decode cX7_board 25 = .ok (.ifCond .ne 6, 3) := by decide +kernel
theorem dX7_board_28 : decode cX7_board 28 = .ok (.bipush (-2), 2) := by decide +kernel
theorem dX7_board_30 : decode cX7_board 30 = .ok (.ireturn, 1) := by decide +kernel
theorem dX7_board_31 : decode cX7_board 31 = .ok (.aload_n 0, 1) := by decide +kernel
theorem dX7_board_32 : decode cX7_board 32 = .ok (.getfield 10, 3) := by decide +kernel
theorem dX7_board_35 : decode cX7_board 35 = .ok (.iload_n 1, 1) := by decide +kernel
theorem dX7_board_36 : decode cX7_board 36 = .ok (.invokevirtual 191, 3) := by decide +kernel
theorem dX7_board_39 : decode cX7_board 39 = .ok (.aload_n 0, 1) := by decide +kernel
theorem dX7_board_40 : decode cX7_board 40 = .ok (.getfield 10, 3) := by decide +kernel
theorem dX7_board_43 : decode cX7_board 43 = .ok (.aload_n 0, 1) := by decide +kernel
theorem dX7_board_44 : decode cX7_board 44 = .ok (.getfield 10, 3) := by decide +kernel
theorem dX7_board_47 : decode cX7_board 47 = .ok (.aload_n 0, 1) := by decide +kernel
theorem dX7_board_48 : decode cX7_board 48 = .ok (.getfield 10, 3) := by decide +kernel
theorem dX7_board_51 : decode cX7_board 51 = .ok (.invokevirtual 175, 3) := by decide +kernel
theorem dX7_board_54 : decode cX7_board 54 = .ok (.invokevirtual 95, 3) := by decide +kernel
theorem dX7_board_57 : decode cX7_board 57 = .ok (.invokevirtual 102, 3) := by decide +kernel
theorem dX7_board_60 : decode cX7_board 60 = .ok (.ireturn, 1) := by decide +kernel
theorem dX7_leave_0 : decode cX7_leave 0 = .ok (.aload_n 0, 1) := by decide +kernel
theorem dX7_leave_1 : decode cX7_leave 1 = .ok (.getfield 10, 3) := by decide +kernel
theorem dX7_leave_4 : decode cX7_leave 4 = .ok (.iload_n 1, 1) := by decide +kernel
theorem dX7_leave_5 : decode cX7_leave 5 = .ok (.invokevirtual 194, 3) := by decide +kernel
theorem dX7_leave_8 : decode cX7_leave 8 = .ok (.ifCond .ne 5, 3) := by decide +kernel
theorem dX7_leave_11 : decode cX7_leave 11 = .ok (.iconst (-1), 1) := by decide +kernel
theorem dX7_leave_12 : decode cX7_leave 12 = .ok (.ireturn, 1) := by decide +kernel
theorem dX7_leave_13 : decode cX7_leave 13 = .ok (.aload_n 0, 1) := by decide +kernel
theorem dX7_leave_14 : decode cX7_leave 14 = .ok (.getfield 10, 3) := by decide +kernel
theorem dX7_leave_17 : decode cX7_leave 17 = .ok (.iload_n 1, 1) := by decide +kernel
theorem dX7_leave_18 : decode cX7_leave 18 = .ok (.aload_n 0, 1) := by decide +kernel
theorem dX7_leave_19 : decode cX7_leave 19 = .ok (.getfield 52, 3) := by decide +kernel
theorem dX7_leave_22 : decode cX7_leave 22 = .ok (.invokevirtual 197, 3) := by decide +kernel
theorem dX7_leave_25 : decode cX7_leave 25 = .ok (.ifCond .ne 6, 3) := by decide +kernel
theorem dX7_leave_28 : decode cX7_leave 28 = .ok (.bipush (-2), 2) := by decide +kernel
theorem dX7_leave_30 : decode cX7_leave 30 = .ok (.ireturn, 1) := by decide +kernel
theorem dX7_leave_31 : decode cX7_leave 31 = .ok (.aload_n 0, 1) := by decide +kernel
theorem dX7_leave_32 : decode cX7_leave 32 = .ok (.getfield 10, 3) := by decide +kernel
theorem dX7_leave_35 : decode cX7_leave 35 = .ok (.iload_n 1, 1) := by decide +kernel
theorem dX7_leave_36 : decode cX7_leave 36 = .ok (.invokevirtual 200, 3) := by decide +kernel
theorem dX7_leave_39 : decode cX7_leave 39 = .ok (.aload_n 0, 1) := by decide +kernel
theorem dX7_leave_40 : decode cX7_leave 40 = .ok (.getfield 10, 3) := by decide +kernel
theorem dX7_leave_43 : decode cX7_leave 43 = .ok (.getfield 172, 3) := by decide +kernel
theorem dX7_leave_46 : decode cX7_leave 46 = .ok (.aload_n 0, 1) := by decide +kernel
theorem dX7_leave_47 : decode cX7_leave 47 = .ok (.getfield 10, 3) := by decide +kernel
theorem dX7_leave_50 : decode cX7_leave 50 = .ok (.getfield 92, 3) := by decide +kernel
theorem dX7_leave_53 : decode cX7_leave 53 = .ok (.iload_n 1, 1) := by decide +kernel
theorem dX7_leave_54 : decode cX7_leave 54 = .ok (.iaload, 1) := by decide +kernel
theorem dX7_leave_55 : decode cX7_leave 55 = .ok (.isub, 1) := by decide +kernel
theorem dX7_leave_56 : decode cX7_leave 56 = .ok (.ireturn, 1) := by decide +kernel
theorem dX7_sand_0 : decode cX7_sand 0 = .ok (.iload_n 1, 1) := by decide +kernel
theorem dX7_sand_1 : decode cX7_sand 1 = .ok (.ifCond .lt 9, 3) := by decide +kernel
theorem dX7_sand_4 : decode cX7_sand 4 = .ok (.iload_n 1, 1) := by decide +kernel
theorem dX7_sand_5 : decode cX7_sand 5 = .ok (.bipush 99, 2) := by decide +kernel
theorem dX7_sand_7 : decode cX7_sand 7 = .ok (.if_icmp .le 5, 3) := by decide +kernel
theorem dX7_sand_10 : decode cX7_sand 10 = .ok (.iconst (-1), 1) := by decide +kernel
theorem dX7_sand_11 : decode cX7_sand 11 = .ok (.ireturn, 1) := by decide +kernel
theorem dX7_sand_12 : decode cX7_sand 12 = .ok (.aload_n 0, 1) := by decide +kernel
theorem dX7_sand_13 : decode cX7_sand 13 = .ok (.getfield 10, 3) := by decide +kernel
theorem dX7_sand_16 : decode cX7_sand 16 = .ok (.iload_n 1, 1) := by decide +kernel
theorem dX7_sand_17 : decode cX7_sand 17 = .ok (.aload_n 0, 1) := by decide +kernel
theorem dX7_sand_18 : decode cX7_sand 18 = .ok (.getfield 52, 3) := by decide +kernel
theorem dX7_sand_21 : decode cX7_sand 21 = .ok (.invokevirtual 203, 3) := by decide +kernel
theorem dX7_sand_24 : decode cX7_sand 24 = .ok (.ifCond .ne 6, 3) := by decide +kernel
theorem dX7_sand_27 : decode cX7_sand 27 = .ok (.bipush (-2), 2) := by decide +kernel
theorem dX7_sand_29 : decode cX7_sand 29 = .ok (.ireturn, 1) := by decide +kernel
theorem dX7_sand_30 : decode cX7_sand 30 = .ok (.aload_n 0, 1) := by decide +kernel
theorem dX7_sand_31 : decode cX7_sand 31 = .ok (.getfield 10, 3) := by decide +kernel
theorem dX7_sand_34 : decode cX7_sand 34 = .ok (.invokevirtual 175, 3) := by decide +kernel
theorem dX7_sand_37 : decode cX7_sand 37 = .ok (.istore_n 2, 1) := by decide +kernel
theorem dX7_sand_38 : decode cX7_sand 38 = .ok (.aload_n 0, 1) := by decide +kernel
theorem dX7_sand_39 : decode cX7_sand 39 = .ok (.getfield 10, 3) := by decide +kernel
theorem dX7_sand_42 : decode cX7_sand 42 = .ok (.getfield 105, 3) := by decide +kernel
theorem dX7_sand_45 : decode cX7_sand 45 = .ok (.iload_n 2, 1) := by decide +kernel
theorem dX7_sand_46 : decode cX7_sand 46 = .ok (.iaload, 1) := by decide +kernel
theorem dX7_sand_47 : decode cX7_sand 47 = .ok (.istore_n 3, 1) := by decide +kernel
theorem dX7_sand_48 : decode cX7_sand 48 = .ok (.aload_n 0, 1) := by decide +kernel
theorem dX7_sand_49 : decode cX7_sand 49 = .ok (.getfield 10, 3) := by decide +kernel
theorem dX7_sand_52 : decode cX7_sand 52 = .ok (.getfield 105, 3) := by decide +kernel
theorem dX7_sand_55 : decode cX7_sand 55 = .ok (.iload_n 2, 1) := by decide +kernel
theorem dX7_sand_56 : decode cX7_sand 56 = .ok (.iload_n 1, 1) := by decide +kernel
theorem dX7_sand_57 : decode cX7_sand 57 = .ok (.iastore, 1) := by decide +kernel
theorem dX7_sand_58 : decode cX7_sand 58 = .ok (.iload_n 3, 1) := by decide +kernel
theorem dX7_sand_59 : decode cX7_sand 59 = .ok (.ireturn, 1) := by decide +kernel
theorem dX7_turn_0 : decode cX7_turn 0 = .ok (.iload_n 1, 1) := by decide +kernel
theorem dX7_turn_1 : decode cX7_turn 1 = .ok (.iconst 1, 1) := by decide +kernel
theorem dX7_turn_2 : decode cX7_turn 2 = .ok (.if_icmp .lt 9, 3) := by decide +kernel
theorem dX7_turn_5 : decode cX7_turn 5 = .ok (.iload_n 1, 1) := by decide +kernel
theorem dX7_turn_6 : decode cX7_turn 6 = .ok (.bipush 60, 2) := by decide +kernel
theorem dX7_turn_8 : decode cX7_turn 8 = .ok (.if_icmp .le 5, 3) := by decide +kernel
theorem dX7_turn_11 : decode cX7_turn 11 = .ok (.iconst (-1), 1) := by decide +kernel
theorem dX7_turn_12 : decode cX7_turn 12 = .ok (.ireturn, 1) := by decide +kernel
theorem dX7_turn_13 : decode cX7_turn 13 = .ok (.aload_n 0, 1) := by decide +kernel
theorem dX7_turn_14 : decode cX7_turn 14 = .ok (.getfield 10, 3) := by decide +kernel
theorem dX7_turn_17 : decode cX7_turn 17 = .ok (.getfield 172, 3) := by decide +kernel
theorem dX7_turn_20 : decode cX7_turn 20 = .ok (.iload_n 1, 1) := by decide +kernel
theorem dX7_turn_21 : decode cX7_turn 21 = .ok (.iadd, 1) := by decide +kernel
theorem dX7_turn_22 : decode cX7_turn 22 = .ok (.sipush 999, 3) := by decide +kernel
theorem dX7_turn_25 : decode cX7_turn 25 = .ok (.if_icmp .le 6, 3) := by decide +kernel
theorem dX7_turn_28 : decode cX7_turn 28 = .ok (.bipush (-3), 2) := by decide +kernel
theorem dX7_turn_30 : decode cX7_turn 30 = .ok (.ireturn, 1) := by decide +kernel
theorem dX7_turn_31 : decode cX7_turn 31 = .ok (.aload_n 0, 1) := by decide +kernel
theorem dX7_turn_32 : decode cX7_turn 32 = .ok (.getfield 10, 3) := by decide +kernel
theorem dX7_turn_35 : decode cX7_turn 35 = .ok (.dup, 1) := by decide +kernel
theorem dX7_turn_36 : decode cX7_turn 36 = .ok (.getfield 172, 3) := by decide +kernel
theorem dX7_turn_39 : decode cX7_turn 39 = .ok (.iload_n 1, 1) := by decide +kernel
theorem dX7_turn_40 : decode cX7_turn 40 = .ok (.iadd, 1) := by decide +kernel
theorem dX7_turn_41 : decode cX7_turn 41 = .ok (.putfield 172, 3) := by decide +kernel
theorem dX7_turn_44 : decode cX7_turn 44 = .ok (.aload_n 0, 1) := by decide +kernel
theorem dX7_turn_45 : decode cX7_turn 45 = .ok (.getfield 10, 3) := by decide +kernel
theorem dX7_turn_48 : decode cX7_turn 48 = .ok (.getfield 172, 3) := by decide +kernel
theorem dX7_turn_51 : decode cX7_turn 51 = .ok (.ireturn, 1) := by decide +kernel
theorem dX7_may_0 : decode cX7_may 0 = .ok (.iload_n 1, 1) := by decide +kernel
theorem dX7_may_1 : decode cX7_may 1 = .ok (.ifCond .eq 10, 3) := by decide +kernel
theorem dX7_may_4 : decode cX7_may 4 = .ok (.iload_n 1, 1) := by decide +kernel
theorem dX7_may_5 : decode cX7_may 5 = .ok (.iconst 1, 1) := by decide +kernel
theorem dX7_may_6 : decode cX7_may 6 = .ok (.if_icmp .eq 5, 3) := by decide +kernel
theorem dX7_may_9 : decode cX7_may 9 = .ok (.iconst (-1), 1) := by decide +kernel
theorem dX7_may_10 : decode cX7_may 10 = .ok (.ireturn, 1) := by decide +kernel
theorem dX7_may_11 : decode cX7_may 11 = .ok (.iconst 0, 1) := by decide +kernel
theorem dX7_may_12 : decode cX7_may 12 = .ok (.istore_n 2, 1) := by decide +kernel
theorem dX7_may_13 : decode cX7_may 13 = .ok (.iconst 0, 1) := by decide +kernel
theorem dX7_may_14 : decode cX7_may 14 = .ok (.istore_n 3, 1) := by decide +kernel
theorem dX7_may_15 : decode cX7_may 15 = .ok (.iload_n 3, 1) := by decide +kernel
theorem dX7_may_16 : decode cX7_may 16 = .ok (.aload_n 0, 1) := by decide +kernel
theorem dX7_may_17 : decode cX7_may 17 = .ok (.getfield 10, 3) := by decide +kernel
theorem dX7_may_20 : decode cX7_may 20 = .ok (.getfield 71, 3) := by decide +kernel
theorem dX7_may_23 : decode cX7_may 23 = .ok (.if_icmp .ge 91, 3) := by decide +kernel
theorem dX7_may_26 : decode cX7_may 26 = .ok (.iload_n 1, 1) := by decide +kernel
theorem dX7_may_27 : decode cX7_may 27 = .ok (.ifCond .ne 37, 3) := by decide +kernel
theorem dX7_may_30 : decode cX7_may 30 = .ok (.aload_n 0, 1) := by decide +kernel
theorem dX7_may_31 : decode cX7_may 31 = .ok (.getfield 10, 3) := by decide +kernel
theorem dX7_may_34 : decode cX7_may 34 = .ok (.iload_n 3, 1) := by decide +kernel
theorem dX7_may_35 : decode cX7_may 35 = .ok (.invokevirtual 184, 3) := by decide +kernel
theorem dX7_may_38 : decode cX7_may 38 = .ok (.ifCond .eq 22, 3) := by decide +kernel
theorem dX7_may_41 : decode cX7_may 41 = .ok (.aload_n 0, 1) := by decide +kernel
theorem dX7_may_42 : decode cX7_may 42 = .ok (.getfield 10, 3) := by decide +kernel
theorem dX7_may_45 : decode cX7_may 45 = .ok (.iload_n 3, 1) := by decide +kernel
theorem dX7_may_46 : decode cX7_may 46 = .ok (.aload_n 0, 1) := by decide +kernel
theorem dX7_may_47 : decode cX7_may 47 = .ok (.getfield 52, 3) := by decide +kernel
theorem dX7_may_50 : decode cX7_may 50 = .ok (.invokevirtual 187, 3) := by decide +kernel
theorem dX7_may_53 : decode cX7_may 53 = .ok (.ifCond .eq 7, 3) := by decide +kernel
theorem dX7_may_56 : decode cX7_may 56 = .ok (.iconst 1, 1) := by decide +kernel
theorem dX7_may_57 : decode cX7_may 57 = .ok (.goto 38, 3) := by decide +kernel
theorem dX7_may_60 : decode cX7_may 60 = .ok (.iconst 0, 1) := by decide +kernel
theorem dX7_may_61 : decode cX7_may 61 = .ok (.goto 34, 3) := by decide +kernel
theorem dX7_may_64 : decode cX7_may 64 = .ok (.aload_n 0, 1) := by decide +kernel
theorem dX7_may_65 : decode cX7_may 65 = .ok (.getfield 10, 3) := by decide +kernel
theorem dX7_may_68 : decode cX7_may 68 = .ok (.iload_n 3, 1) := by decide +kernel
theorem dX7_may_69 : decode cX7_may 69 = .ok (.invokevirtual 194, 3) := by decide +kernel
theorem dX7_may_72 : decode cX7_may 72 = .ok (.ifCond .eq 22, 3) := by decide +kernel
theorem dX7_may_75 : decode cX7_may 75 = .ok (.aload_n 0, 1) := by decide +kernel
theorem dX7_may_76 : decode cX7_may 76 = .ok (.getfield 10, 3) := by decide +kernel
theorem dX7_may_79 : decode cX7_may 79 = .ok (.iload_n 3, 1) := by decide +kernel
theorem dX7_may_80 : decode cX7_may 80 = .ok (.aload_n 0, 1) := by decide +kernel
theorem dX7_may_81 : decode cX7_may 81 = .ok (.getfield 52, 3) := by decide +kernel
theorem dX7_may_84 : decode cX7_may 84 = .ok (.invokevirtual 197, 3) := by decide +kernel
theorem dX7_may_87 : decode cX7_may 87 = .ok (.ifCond .eq 7, 3) := by decide +kernel
theorem dX7_may_90 : decode cX7_may 90 = .ok (.iconst 1, 1) := by decide +kernel
theorem dX7_may_91 : decode cX7_may 91 = .ok (.goto 4, 3) := by decide +kernel
theorem dX7_may_94 : decode cX7_may 94 = .ok (.iconst 0, 1) := by decide +kernel
theorem dX7_may_95 : decode cX7_may 95 = .ok (.istore 4, 2) := by decide +kernel
theorem dX7_may_97 : decode cX7_may 97 = .ok (.iload 4, 2) := by decide +kernel
theorem dX7_may_99 : decode cX7_may 99 = .ok (.ifCond .eq 9, 3) := by decide +kernel
theorem dX7_may_102 : decode cX7_may 102 = .ok (.iload_n 2, 1) := by decide +kernel
theorem dX7_may_103 : decode cX7_may 103 = .ok (.iconst 1, 1) := by decide +kernel
theorem dX7_may_104 : decode cX7_may 104 = .ok (.iload_n 3, 1) := by decide +kernel
theorem dX7_may_105 : decode cX7_may 105 = .ok (.ishl, 1) := by decide +kernel
theorem dX7_may_106 : decode cX7_may 106 = .ok (.ior, 1) := by decide +kernel
theorem dX7_may_107 : decode cX7_may 107 = .ok (.istore_n 2, 1) := by decide +kernel
theorem dX7_may_108 : decode cX7_may 108 = .ok (.iinc 3 1, 3) := by decide +kernel
theorem dX7_may_111 : decode cX7_may 111 = .ok (.goto (-96), 3) := by decide +kernel
theorem dX7_may_114 : decode cX7_may 114 = .ok (.iload_n 2, 1) := by decide +kernel
theorem dX7_may_115 : decode cX7_may 115 = .ok (.ireturn, 1) := by decide +kernel
theorem dX7_soonest_0 : decode cX7_soonest 0 = .ok (.aload_n 0, 1) := by decide +kernel
theorem dX7_soonest_1 : decode cX7_soonest 1 = .ok (.iload_n 1, 1) := by decide +kernel
theorem dX7_soonest_2 : decode cX7_soonest 2 = .ok (.iload_n 2, 1) := by decide +kernel
theorem dX7_soonest_3 : decode cX7_soonest 3 = .ok (.invokevirtual 206, 3) := by decide +kernel
theorem dX7_soonest_6 : decode cX7_soonest 6 = .ok (.ifCond .ne 5, 3) := by decide +kernel
theorem dX7_soonest_9 : decode cX7_soonest 9 = .ok (.iconst (-1), 1) := by decide +kernel
theorem dX7_soonest_10 : decode cX7_soonest 10 = .ok (.ireturn, 1) := by decide +kernel
theorem dX7_soonest_11 : decode cX7_soonest 11 = .ok (.aload_n 0, 1) := by decide +kernel
theorem dX7_soonest_12 : decode cX7_soonest 12 = .ok (.getfield 31, 3) := by decide +kernel
theorem dX7_soonest_15 : decode cX7_soonest 15 = .ok (.iload_n 1, 1) := by decide +kernel
theorem dX7_soonest_16 : decode cX7_soonest 16 = .ok (.iload_n 2, 1) := by decide +kernel
theorem dX7_soonest_17 : decode cX7_soonest 17 = .ok (.invokevirtual 209, 3) := by decide +kernel
theorem dX7_soonest_20 : decode cX7_soonest 20 = .ok (.ifCond .eq 13, 3) := by decide +kernel
theorem dX7_soonest_23 : decode cX7_soonest 23 = .ok (.aload_n 0, 1) := by decide +kernel
theorem dX7_soonest_24 : decode cX7_soonest 24 = .ok (.getfield 31, 3) := by decide +kernel
theorem dX7_soonest_27 : decode cX7_soonest 27 = .ok (.invokevirtual 212, 3) := by decide +kernel
theorem dX7_soonest_30 : decode cX7_soonest 30 = .ok (.goto 5, 3) := by decide +kernel
theorem dX7_soonest_33 : decode cX7_soonest 33 = .ok (.bipush (-4), 2) := by decide +kernel
theorem dX7_soonest_35 : decode cX7_soonest 35 = .ok (.ireturn, 1) := by decide +kernel
theorem dX7_when_0 : decode cX7_when 0 = .ok (.aload_n 0, 1) := by decide +kernel
theorem dX7_when_1 : decode cX7_when 1 = .ok (.iload_n 1, 1) := by decide +kernel
theorem dX7_when_2 : decode cX7_when 2 = .ok (.iload_n 2, 1) := by decide +kernel
theorem dX7_when_3 : decode cX7_when 3 = .ok (.invokevirtual 206, 3) := by decide +kernel
theorem dX7_when_6 : decode cX7_when 6 = .ok (.ifCond .eq 22, 3) := by decide +kernel
theorem dX7_when_9 : decode cX7_when 9 = .ok (.aload_n 0, 1) := by decide +kernel
theorem dX7_when_10 : decode cX7_when 10 = .ok (.getfield 10, 3) := by decide +kernel
theorem dX7_when_13 : decode cX7_when 13 = .ok (.iload_n 3, 1) := by decide +kernel
theorem dX7_when_14 : decode cX7_when 14 = .ok (.invokevirtual 79, 3) := by decide +kernel
theorem dX7_when_17 : decode cX7_when 17 = .ok (.ifCond .eq 11, 3) := by decide +kernel
theorem dX7_when_20 : decode cX7_when 20 = .ok (.iload_n 1, 1) := by decide +kernel
theorem dX7_when_21 : decode cX7_when 21 = .ok (.iload_n 3, 1) := by decide +kernel
theorem dX7_when_22 : decode cX7_when 22 = .ok (.ishr, 1) := by decide +kernel
theorem dX7_when_23 : decode cX7_when 23 = .ok (.iconst 1, 1) := by decide +kernel
theorem dX7_when_24 : decode cX7_when 24 = .ok (.iand, 1) := by decide +kernel
theorem dX7_when_25 : decode cX7_when 25 = .ok (.ifCond .ne 5, 3) := by decide +kernel
theorem dX7_when_28 : decode cX7_when 28 = .ok (.iconst (-1), 1) := by decide +kernel
theorem dX7_when_29 : decode cX7_when 29 = .ok (.ireturn, 1) := by decide +kernel
theorem dX7_when_30 : decode cX7_when 30 = .ok (.aload_n 0, 1) := by decide +kernel
theorem dX7_when_31 : decode cX7_when 31 = .ok (.getfield 31, 3) := by decide +kernel
theorem dX7_when_34 : decode cX7_when 34 = .ok (.iload_n 1, 1) := by decide +kernel
theorem dX7_when_35 : decode cX7_when 35 = .ok (.iload_n 2, 1) := by decide +kernel
theorem dX7_when_36 : decode cX7_when 36 = .ok (.invokevirtual 209, 3) := by decide +kernel
theorem dX7_when_39 : decode cX7_when 39 = .ok (.ifCond .eq 14, 3) := by decide +kernel
theorem dX7_when_42 : decode cX7_when 42 = .ok (.aload_n 0, 1) := by decide +kernel
theorem dX7_when_43 : decode cX7_when 43 = .ok (.getfield 31, 3) := by decide +kernel
theorem dX7_when_46 : decode cX7_when 46 = .ok (.iload_n 3, 1) := by decide +kernel
theorem dX7_when_47 : decode cX7_when 47 = .ok (.invokevirtual 215, 3) := by decide +kernel
theorem dX7_when_50 : decode cX7_when 50 = .ok (.goto 5, 3) := by decide +kernel
theorem dX7_when_53 : decode cX7_when 53 = .ok (.bipush (-4), 2) := by decide +kernel
theorem dX7_when_55 : decode cX7_when 55 = .ok (.ireturn, 1) := by decide +kernel
theorem dX7_empty_0 : decode cX7_empty 0 = .ok (.aload_n 0, 1) := by decide +kernel
theorem dX7_empty_1 : decode cX7_empty 1 = .ok (.getfield 38, 3) := by decide +kernel
theorem dX7_empty_4 : decode cX7_empty 4 = .ok (.invokevirtual 218, 3) := by decide +kernel
theorem dX7_empty_7 : decode cX7_empty 7 = .ok (.ireturn, 1) := by decide +kernel
theorem dX7_least_0 : decode cX7_least 0 = .ok (.aload_n 0, 1) := by decide +kernel
theorem dX7_least_1 : decode cX7_least 1 = .ok (.getfield 10, 3) := by decide +kernel
theorem dX7_least_4 : decode cX7_least 4 = .ok (.iload_n 1, 1) := by decide +kernel
theorem dX7_least_5 : decode cX7_least 5 = .ok (.invokevirtual 184, 3) := by decide +kernel
theorem dX7_least_8 : decode cX7_least 8 = .ok (.ifCond .eq 12, 3) := by decide +kernel
theorem dX7_least_11 : decode cX7_least 11 = .ok (.iload_n 2, 1) := by decide +kernel
theorem dX7_least_12 : decode cX7_least 12 = .ok (.ifCond .lt 8, 3) := by decide +kernel
theorem dX7_least_15 : decode cX7_least 15 = .ok (.iload_n 2, 1) := by decide +kernel
theorem dX7_least_16 : decode cX7_least 16 = .ok (.iconst 1, 1) := by decide +kernel
theorem dX7_least_17 : decode cX7_least 17 = .ok (.if_icmp .le 5, 3) := by decide +kernel
theorem dX7_least_20 : decode cX7_least 20 = .ok (.iconst (-1), 1) := by decide +kernel
theorem dX7_least_21 : decode cX7_least 21 = .ok (.ireturn, 1) := by decide +kernel
theorem dX7_least_22 : decode cX7_least 22 = .ok (.aload_n 0, 1) := by decide +kernel
theorem dX7_least_23 : decode cX7_least 23 = .ok (.getfield 10, 3) := by decide +kernel
theorem dX7_least_26 : decode cX7_least 26 = .ok (.invokevirtual 175, 3) := by decide +kernel
theorem dX7_least_29 : decode cX7_least 29 = .ok (.istore_n 3, 1) := by decide +kernel
theorem dX7_least_30 : decode cX7_least 30 = .ok (.aload_n 0, 1) := by decide +kernel
theorem dX7_least_31 : decode cX7_least 31 = .ok (.getfield 10, 3) := by decide +kernel
theorem dX7_least_34 : decode cX7_least 34 = .ok (.aload_n 0, 1) := by decide +kernel
theorem dX7_least_35 : decode cX7_least 35 = .ok (.getfield 10, 3) := by decide +kernel
theorem dX7_least_38 : decode cX7_least 38 = .ok (.iload_n 3, 1) := by decide +kernel
theorem dX7_least_39 : decode cX7_least 39 = .ok (.invokevirtual 95, 3) := by decide +kernel
theorem dX7_least_42 : decode cX7_least 42 = .ok (.iconst 1, 1) := by decide +kernel
theorem dX7_least_43 : decode cX7_least 43 = .ok (.iload_n 1, 1) := by decide +kernel
theorem dX7_least_44 : decode cX7_least 44 = .ok (.ishl, 1) := by decide +kernel
theorem dX7_least_45 : decode cX7_least 45 = .ok (.ior, 1) := by decide +kernel
theorem dX7_least_46 : decode cX7_least 46 = .ok (.invokevirtual 221, 3) := by decide +kernel
theorem dX7_least_49 : decode cX7_least 49 = .ok (.ifCond .ne 6, 3) := by decide +kernel
theorem dX7_least_52 : decode cX7_least 52 = .ok (.bipush (-4), 2) := by decide +kernel
theorem dX7_least_54 : decode cX7_least 54 = .ok (.ireturn, 1) := by decide +kernel
theorem dX7_least_55 : decode cX7_least 55 = .ok (.aload_n 0, 1) := by decide +kernel
theorem dX7_least_56 : decode cX7_least 56 = .ok (.getfield 10, 3) := by decide +kernel
theorem dX7_least_59 : decode cX7_least 59 = .ok (.aload_n 0, 1) := by decide +kernel
theorem dX7_least_60 : decode cX7_least 60 = .ok (.getfield 52, 3) := by decide +kernel
theorem dX7_least_63 : decode cX7_least 63 = .ok (.invokevirtual 108, 3) := by decide +kernel
theorem dX7_least_66 : decode cX7_least 66 = .ok (.aload_n 0, 1) := by decide +kernel
theorem dX7_least_67 : decode cX7_least 67 = .ok (.getfield 52, 3) := by decide +kernel
theorem dX7_least_70 : decode cX7_least 70 = .ok (.iload_n 3, 1) := by decide +kernel
theorem dX7_least_71 : decode cX7_least 71 = .ok (.aload_n 0, 1) := by decide +kernel
theorem dX7_least_72 : decode cX7_least 72 = .ok (.getfield 10, 3) := by decide +kernel
theorem dX7_least_75 : decode cX7_least 75 = .ok (.getfield 86, 3) := by decide +kernel
theorem dX7_least_78 : decode cX7_least 78 = .ok (.iload_n 1, 1) := by decide +kernel
theorem dX7_least_79 : decode cX7_least 79 = .ok (.iaload, 1) := by decide +kernel
theorem dX7_least_80 : decode cX7_least 80 = .ok (.invokevirtual 224, 3) := by decide +kernel
theorem dX7_least_83 : decode cX7_least 83 = .ok (.iconst 0, 1) := by decide +kernel
theorem dX7_least_84 : decode cX7_least 84 = .ok (.istore 4, 2) := by decide +kernel
theorem dX7_least_86 : decode cX7_least 86 = .ok (.iload 4, 2) := by decide +kernel
theorem dX7_least_88 : decode cX7_least 88 = .ok (.bipush 99, 2) := by decide +kernel
theorem dX7_least_90 : decode cX7_least 90 = .ok (.if_icmp .gt 48, 3) := by decide +kernel
theorem dX7_least_93 : decode cX7_least 93 = .ok (.iconst 0, 1) := by decide +kernel
theorem dX7_least_94 : decode cX7_least 94 = .ok (.istore 5, 2) := by decide +kernel
theorem dX7_least_96 : decode cX7_least 96 = .ok (.iload 5, 2) := by decide +kernel
theorem dX7_least_98 : decode cX7_least 98 = .ok (.bipush 12, 2) := by decide +kernel
theorem dX7_least_100 : decode cX7_least 100 = .ok (.if_icmp .ge 32, 3) := by decide +kernel
theorem dX7_least_103 : decode cX7_least 103 = .ok (.aload_n 0, 1) := by decide +kernel
theorem dX7_least_104 : decode cX7_least 104 = .ok (.iload 5, 2) := by decide +kernel
theorem dX7_least_106 : decode cX7_least 106 = .ok (.iload 4, 2) := by decide +kernel
theorem dX7_least_108 : decode cX7_least 108 = .ok (.invokevirtual 228, 3) := by decide +kernel
theorem dX7_least_111 : decode cX7_least 111 = .ok (.ifCond .eq 15, 3) := by decide +kernel
theorem dX7_least_114 : decode cX7_least 114 = .ok (.iload_n 2, 1) := by decide +kernel
theorem dX7_least_115 : decode cX7_least 115 = .ok (.ifCond .ne 8, 3) := by decide +kernel
theorem dX7_least_118 : decode cX7_least 118 = .ok (.iload 4, 2) := by decide +kernel
theorem dX7_least_120 : decode cX7_least 120 = .ok (.goto 5, 3) := by decide +kernel
theorem dX7_least_123 : decode cX7_least 123 = .ok (.iload 5, 2) := by decide +kernel
theorem dX7_least_125 : decode cX7_least 125 = .ok (.ireturn, 1) := by decide +kernel
theorem dX7_least_126 : decode cX7_least 126 = .ok (.iinc 5 1, 3) := by decide +kernel
theorem dX7_least_129 : decode cX7_least 129 = .ok (.goto (-33), 3) := by decide +kernel
theorem dX7_least_132 : decode cX7_least 132 = .ok (.iinc 4 1, 3) := by decide +kernel
theorem dX7_least_135 : decode cX7_least 135 = .ok (.goto (-49), 3) := by decide +kernel
theorem dX7_least_138 : decode cX7_least 138 = .ok (.bipush (-4), 2) := by decide +kernel
theorem dX7_least_140 : decode cX7_least 140 = .ok (.ireturn, 1) := by decide +kernel
theorem dX7_sure_0 : decode cX7_sure 0 = .ok (.iload_n 1, 1) := by decide +kernel
theorem dX7_sure_1 : decode cX7_sure 1 = .ok (.ifCond .lt 9, 3) := by decide +kernel
theorem dX7_sure_4 : decode cX7_sure 4 = .ok (.iload_n 1, 1) := by decide +kernel
theorem dX7_sure_5 : decode cX7_sure 5 = .ok (.bipush 9, 2) := by decide +kernel
theorem dX7_sure_7 : decode cX7_sure 7 = .ok (.if_icmp .le 5, 3) := by decide +kernel
theorem dX7_sure_10 : decode cX7_sure 10 = .ok (.iconst (-1), 1) := by decide +kernel
theorem dX7_sure_11 : decode cX7_sure 11 = .ok (.ireturn, 1) := by decide +kernel
theorem dX7_sure_12 : decode cX7_sure 12 = .ok (.aload_n 0, 1) := by decide +kernel
theorem dX7_sure_13 : decode cX7_sure 13 = .ok (.getfield 10, 3) := by decide +kernel
theorem dX7_sure_16 : decode cX7_sure 16 = .ok (.invokevirtual 178, 3) := by decide +kernel
theorem dX7_sure_19 : decode cX7_sure 19 = .ok (.invokestatic 231, 3) := by decide +kernel
theorem dX7_sure_22 : decode cX7_sure 22 = .ok (.bipush 8, 2) := by decide +kernel
theorem dX7_sure_24 : decode cX7_sure 24 = .ok (.if_icmp .le 6, 3) := by decide +kernel
theorem dX7_sure_27 : decode cX7_sure 27 = .ok (.bipush (-3), 2) := by decide +kernel
theorem dX7_sure_29 : decode cX7_sure 29 = .ok (.ireturn, 1) := by decide +kernel
theorem dX7_sure_30 : decode cX7_sure 30 = .ok (.aload_n 0, 1) := by decide +kernel
theorem dX7_sure_31 : decode cX7_sure 31 = .ok (.getfield 45, 3) := by decide +kernel
theorem dX7_sure_34 : decode cX7_sure 34 = .ok (.iload_n 1, 1) := by decide +kernel
theorem dX7_sure_35 : decode cX7_sure 35 = .ok (.invokevirtual 236, 3) := by decide +kernel
theorem dX7_sure_38 : decode cX7_sure 38 = .ok (.aload_n 0, 1) := by decide +kernel
theorem dX7_sure_39 : decode cX7_sure 39 = .ok (.getfield 45, 3) := by decide +kernel
theorem dX7_sure_42 : decode cX7_sure 42 = .ok (.getfield 239, 3) := by decide +kernel
theorem dX7_sure_45 : decode cX7_sure 45 = .ok (.aload_n 0, 1) := by decide +kernel
theorem dX7_sure_46 : decode cX7_sure 46 = .ok (.getfield 10, 3) := by decide +kernel
theorem dX7_sure_49 : decode cX7_sure 49 = .ok (.getfield 115, 3) := by decide +kernel
theorem dX7_sure_52 : decode cX7_sure 52 = .ok (.invokevirtual 112, 3) := by decide +kernel
theorem dX7_sure_55 : decode cX7_sure 55 = .ok (.ifCond .eq 7, 3) := by decide +kernel
theorem dX7_sure_58 : decode cX7_sure 58 = .ok (.iconst 1, 1) := by decide +kernel
theorem dX7_sure_59 : decode cX7_sure 59 = .ok (.goto 4, 3) := by decide +kernel
theorem dX7_sure_62 : decode cX7_sure 62 = .ok (.iconst 0, 1) := by decide +kernel
theorem dX7_sure_63 : decode cX7_sure 63 = .ok (.ireturn, 1) := by decide +kernel
theorem dX7_worst_0 : decode cX7_worst 0 = .ok (.iload_n 1, 1) := by decide +kernel
theorem dX7_worst_1 : decode cX7_worst 1 = .ok (.ifCond .lt 18, 3) := by decide +kernel
theorem dX7_worst_4 : decode cX7_worst 4 = .ok (.iload_n 1, 1) := by decide +kernel
theorem dX7_worst_5 : decode cX7_worst 5 = .ok (.bipush 9, 2) := by decide +kernel
theorem dX7_worst_7 : decode cX7_worst 7 = .ok (.if_icmp .gt 12, 3) := by decide +kernel
theorem dX7_worst_10 : decode cX7_worst 10 = .ok (.iload_n 2, 1) := by decide +kernel
theorem dX7_worst_11 : decode cX7_worst 11 = .ok (.ifCond .lt 8, 3) := by decide +kernel
theorem dX7_worst_14 : decode cX7_worst 14 = .ok (.iload_n 2, 1) := by decide +kernel
theorem dX7_worst_15 : decode cX7_worst 15 = .ok (.iconst 1, 1) := by decide +kernel
theorem dX7_worst_16 : decode cX7_worst 16 = .ok (.if_icmp .le 6, 3) := by decide +kernel
theorem dX7_worst_19 : decode cX7_worst 19 = .ok (.ldc 137, 2) := by decide +kernel
theorem dX7_worst_21 : decode cX7_worst 21 = .ok (.ireturn, 1) := by decide +kernel
theorem dX7_worst_22 : decode cX7_worst 22 = .ok (.aload_n 0, 1) := by decide +kernel
theorem dX7_worst_23 : decode cX7_worst 23 = .ok (.getfield 10, 3) := by decide +kernel
theorem dX7_worst_26 : decode cX7_worst 26 = .ok (.invokevirtual 178, 3) := by decide +kernel
theorem dX7_worst_29 : decode cX7_worst 29 = .ok (.invokestatic 231, 3) := by decide +kernel
theorem dX7_worst_32 : decode cX7_worst 32 = .ok (.bipush 8, 2) := by decide +kernel
theorem dX7_worst_34 : decode cX7_worst 34 = .ok (.if_icmp .le 6, 3) := by decide +kernel
theorem dX7_worst_37 : decode cX7_worst 37 = .ok (.ldc 242, 2) := by decide +kernel
theorem dX7_worst_39 : decode cX7_worst 39 = .ok (.ireturn, 1) := by decide +kernel
theorem dX7_worst_40 : decode cX7_worst 40 = .ok (.aload_n 0, 1) := by decide +kernel
theorem dX7_worst_41 : decode cX7_worst 41 = .ok (.getfield 45, 3) := by decide +kernel
theorem dX7_worst_44 : decode cX7_worst 44 = .ok (.iload_n 1, 1) := by decide +kernel
theorem dX7_worst_45 : decode cX7_worst 45 = .ok (.invokevirtual 236, 3) := by decide +kernel
theorem dX7_worst_48 : decode cX7_worst 48 = .ok (.iload_n 2, 1) := by decide +kernel
theorem dX7_worst_49 : decode cX7_worst 49 = .ok (.ifCond .ne 16, 3) := by decide +kernel
theorem dX7_worst_52 : decode cX7_worst 52 = .ok (.aload_n 0, 1) := by decide +kernel
theorem dX7_worst_53 : decode cX7_worst 53 = .ok (.getfield 45, 3) := by decide +kernel
theorem dX7_worst_56 : decode cX7_worst 56 = .ok (.getfield 239, 3) := by decide +kernel
theorem dX7_worst_59 : decode cX7_worst 59 = .ok (.invokevirtual 130, 3) := by decide +kernel
theorem dX7_worst_62 : decode cX7_worst 62 = .ok (.goto 13, 3) := by decide +kernel
theorem dX7_worst_65 : decode cX7_worst 65 = .ok (.aload_n 0, 1) := by decide +kernel
theorem dX7_worst_66 : decode cX7_worst 66 = .ok (.getfield 45, 3) := by decide +kernel
theorem dX7_worst_69 : decode cX7_worst 69 = .ok (.getfield 239, 3) := by decide +kernel
theorem dX7_worst_72 : decode cX7_worst 72 = .ok (.invokevirtual 134, 3) := by decide +kernel
theorem dX7_worst_75 : decode cX7_worst 75 = .ok (.l2i, 1) := by decide +kernel
theorem dX7_worst_76 : decode cX7_worst 76 = .ok (.ireturn, 1) := by decide +kernel
theorem dX7_image_0 : decode cX7_image 0 = .ok (.aload_n 0, 1) := by decide +kernel
theorem dX7_image_1 : decode cX7_image 1 = .ok (.getfield 16, 3) := by decide +kernel
theorem dX7_image_4 : decode cX7_image 4 = .ok (.aload_n 0, 1) := by decide +kernel
theorem dX7_image_5 : decode cX7_image 5 = .ok (.getfield 10, 3) := by decide +kernel
theorem dX7_image_8 : decode cX7_image 8 = .ok (.invokevirtual 243, 3) := by decide +kernel
theorem dX7_image_11 : decode cX7_image 11 = .ok (.aload_n 0, 1) := by decide +kernel
theorem dX7_image_12 : decode cX7_image 12 = .ok (.iconst 1, 1) := by decide +kernel
theorem dX7_image_13 : decode cX7_image 13 = .ok (.putfield 67, 3) := by decide +kernel
theorem dX7_image_16 : decode cX7_image 16 = .ok (.iconst 1, 1) := by decide +kernel
theorem dX7_image_17 : decode cX7_image 17 = .ok (.ireturn, 1) := by decide +kernel
theorem dX7_restore_0 : decode cX7_restore 0 = .ok (.aload_n 0, 1) := by decide +kernel
theorem dX7_restore_1 : decode cX7_restore 1 = .ok (.getfield 67, 3) := by decide +kernel
theorem dX7_restore_4 : decode cX7_restore 4 = .ok (.ifCond .ne 6, 3) := by decide +kernel
theorem dX7_restore_7 : decode cX7_restore 7 = .ok (.bipush (-4), 2) := by decide +kernel
theorem dX7_restore_9 : decode cX7_restore 9 = .ok (.ireturn, 1) := by decide +kernel
theorem dX7_restore_10 : decode cX7_restore 10 = .ok (.aload_n 0, 1) := by decide +kernel
theorem dX7_restore_11 : decode cX7_restore 11 = .ok (.getfield 10, 3) := by decide +kernel
theorem dX7_restore_14 : decode cX7_restore 14 = .ok (.aload_n 0, 1) := by decide +kernel
theorem dX7_restore_15 : decode cX7_restore 15 = .ok (.getfield 16, 3) := by decide +kernel
theorem dX7_restore_18 : decode cX7_restore 18 = .ok (.invokevirtual 243, 3) := by decide +kernel
theorem dX7_restore_21 : decode cX7_restore 21 = .ok (.iconst 1, 1) := by decide +kernel
theorem dX7_restore_22 : decode cX7_restore 22 = .ok (.ireturn, 1) := by decide +kernel
theorem dX7_pour_0 : decode cX7_pour 0 = .ok (.aload_n 0, 1) := by decide +kernel
theorem dX7_pour_1 : decode cX7_pour 1 = .ok (.iload_n 1, 1) := by decide +kernel
theorem dX7_pour_2 : decode cX7_pour 2 = .ok (.iload_n 2, 1) := by decide +kernel
theorem dX7_pour_3 : decode cX7_pour 3 = .ok (.iload_n 3, 1) := by decide +kernel
theorem dX7_pour_4 : decode cX7_pour 4 = .ok (.bipush 12, 2) := by decide +kernel
theorem dX7_pour_6 : decode cX7_pour 6 = .ok (.invokevirtual 246, 3) := by decide +kernel
theorem dX7_pour_9 : decode cX7_pour 9 = .ok (.istore 4, 2) := by decide +kernel
theorem dX7_pour_11 : decode cX7_pour 11 = .ok (.iload 4, 2) := by decide +kernel
theorem dX7_pour_13 : decode cX7_pour 13 = .ok (.ifCond .eq 6, 3) := by decide +kernel
theorem dX7_pour_16 : decode cX7_pour 16 = .ok (.iload 4, 2) := by decide +kernel
theorem dX7_pour_18 : decode cX7_pour 18 = .ok (.ireturn, 1) := by decide +kernel
theorem dX7_pour_19 : decode cX7_pour 19 = .ok (.aload_n 0, 1) := by decide +kernel
theorem dX7_pour_20 : decode cX7_pour 20 = .ok (.getfield 10, 3) := by decide +kernel
theorem dX7_pour_23 : decode cX7_pour 23 = .ok (.aload_n 0, 1) := by decide +kernel
theorem dX7_pour_24 : decode cX7_pour 24 = .ok (.getfield 52, 3) := by decide +kernel
theorem dX7_pour_27 : decode cX7_pour 27 = .ok (.invokevirtual 250, 3) := by decide +kernel
theorem dX7_pour_30 : decode cX7_pour 30 = .ok (.iconst 0, 1) := by decide +kernel
theorem dX7_pour_31 : decode cX7_pour 31 = .ok (.istore 5, 2) := by decide +kernel
theorem dX7_pour_33 : decode cX7_pour 33 = .ok (.iconst 0, 1) := by decide +kernel
theorem dX7_pour_34 : decode cX7_pour 34 = .ok (.istore 6, 2) := by decide +kernel
theorem dX7_pour_36 : decode cX7_pour 36 = .ok (.iload 6, 2) := by decide +kernel
theorem dX7_pour_38 : decode cX7_pour 38 = .ok (.bipush 12, 2) := by decide +kernel
theorem dX7_pour_40 : decode cX7_pour 40 = .ok (.if_icmp .ge 67, 3) := by decide +kernel
theorem dX7_pour_43 : decode cX7_pour 43 = .ok (.aload_n 0, 1) := by decide +kernel
theorem dX7_pour_44 : decode cX7_pour 44 = .ok (.getfield 58, 3) := by decide +kernel
theorem dX7_pour_47 : decode cX7_pour 47 = .ok (.iload_n 1, 1) := by decide +kernel
theorem dX7_pour_48 : decode cX7_pour 48 = .ok (.aaload, 1) := by decide +kernel
theorem dX7_pour_49 : decode cX7_pour 49 = .ok (.getfield 253, 3) := by decide +kernel
theorem dX7_pour_52 : decode cX7_pour 52 = .ok (.iload_n 3, 1) := by decide +kernel
theorem dX7_pour_53 : decode cX7_pour 53 = .ok (.iload 6, 2) := by decide +kernel
theorem dX7_pour_55 : decode cX7_pour 55 = .ok (.iadd, 1) := by decide +kernel
theorem dX7_pour_56 : decode cX7_pour 56 = .ok (.iaload, 1) := by decide +kernel
theorem dX7_pour_57 : decode cX7_pour 57 = .ok (.istore 7, 2) := by decide +kernel
theorem dX7_pour_59 : decode cX7_pour 59 = .ok (.iload 7, 2) := by decide +kernel
theorem dX7_pour_61 : decode cX7_pour 61 = .ok (.ifCond .lt 10, 3) := by decide +kernel
theorem dX7_pour_64 : decode cX7_pour 64 = .ok (.iload 7, 2) := by decide +kernel
theorem dX7_pour_66 : decode cX7_pour 66 = .ok (.bipush 99, 2) := by decide +kernel
theorem dX7_pour_68 : decode cX7_pour 68 = .ok (.if_icmp .le 6, 3) := by decide +kernel
theorem dX7_pour_71 : decode cX7_pour 71 = .ok (.bipush (-2), 2) := by decide +kernel
theorem dX7_pour_73 : decode cX7_pour 73 = .ok (.ireturn, 1) := by decide +kernel
theorem dX7_pour_74 : decode cX7_pour 74 = .ok (.aload_n 0, 1) := by decide +kernel
theorem dX7_pour_75 : decode cX7_pour 75 = .ok (.getfield 63, 3) := by decide +kernel
theorem dX7_pour_78 : decode cX7_pour 78 = .ok (.iload 6, 2) := by decide +kernel
theorem dX7_pour_80 : decode cX7_pour 80 = .ok (.iload 7, 2) := by decide +kernel
theorem dX7_pour_82 : decode cX7_pour 82 = .ok (.iastore, 1) := by decide +kernel
theorem dX7_pour_83 : decode cX7_pour 83 = .ok (.iload 5, 2) := by decide +kernel
theorem dX7_pour_85 : decode cX7_pour 85 = .ok (.iload 7, 2) := by decide +kernel
theorem dX7_pour_87 : decode cX7_pour 87 = .ok (.iadd, 1) := by decide +kernel
theorem dX7_pour_88 : decode cX7_pour 88 = .ok (.istore 5, 2) := by decide +kernel
theorem dX7_pour_90 : decode cX7_pour 90 = .ok (.aload_n 0, 1) := by decide +kernel
theorem dX7_pour_91 : decode cX7_pour 91 = .ok (.getfield 52, 3) := by decide +kernel
theorem dX7_pour_94 : decode cX7_pour 94 = .ok (.iload 6, 2) := by decide +kernel
theorem dX7_pour_96 : decode cX7_pour 96 = .ok (.iload 7, 2) := by decide +kernel
theorem dX7_pour_98 : decode cX7_pour 98 = .ok (.invokevirtual 224, 3) := by decide +kernel
theorem dX7_pour_101 : decode cX7_pour 101 = .ok (.iinc 6 1, 3) := by decide +kernel
theorem dX7_pour_104 : decode cX7_pour 104 = .ok (.goto (-68), 3) := by decide +kernel
theorem dX7_pour_107 : decode cX7_pour 107 = .ok (.aload_n 0, 1) := by decide +kernel
theorem dX7_pour_108 : decode cX7_pour 108 = .ok (.getfield 52, 3) := by decide +kernel
theorem dX7_pour_111 : decode cX7_pour 111 = .ok (.aload_n 0, 1) := by decide +kernel
theorem dX7_pour_112 : decode cX7_pour 112 = .ok (.getfield 10, 3) := by decide +kernel
theorem dX7_pour_115 : decode cX7_pour 115 = .ok (.getfield 115, 3) := by decide +kernel
theorem dX7_pour_118 : decode cX7_pour 118 = .ok (.invokevirtual 112, 3) := by decide +kernel
theorem dX7_pour_121 : decode cX7_pour 121 = .ok (.ifCond .ne 6, 3) := by decide +kernel
theorem dX7_pour_124 : decode cX7_pour 124 = .ok (.bipush (-2), 2) := by decide +kernel
theorem dX7_pour_126 : decode cX7_pour 126 = .ok (.ireturn, 1) := by decide +kernel
theorem dX7_pour_127 : decode cX7_pour 127 = .ok (.aload_n 0, 1) := by decide +kernel
theorem dX7_pour_128 : decode cX7_pour 128 = .ok (.getfield 63, 3) := by decide +kernel
theorem dX7_pour_131 : decode cX7_pour 131 = .ok (.iconst 0, 1) := by decide +kernel
theorem dX7_pour_132 : decode cX7_pour 132 = .ok (.aload_n 0, 1) := by decide +kernel
theorem dX7_pour_133 : decode cX7_pour 133 = .ok (.getfield 10, 3) := by decide +kernel
theorem dX7_pour_136 : decode cX7_pour 136 = .ok (.getfield 105, 3) := by decide +kernel
theorem dX7_pour_139 : decode cX7_pour 139 = .ok (.iconst 0, 1) := by decide +kernel
theorem dX7_pour_140 : decode cX7_pour 140 = .ok (.bipush 12, 2) := by decide +kernel
theorem dX7_pour_142 : decode cX7_pour 142 = .ok (.invokestatic 256, 3) := by decide +kernel
theorem dX7_pour_145 : decode cX7_pour 145 = .ok (.iload 5, 2) := by decide +kernel
theorem dX7_pour_147 : decode cX7_pour 147 = .ok (.ireturn, 1) := by decide +kernel
theorem dX7_film_0 : decode cX7_film 0 = .ok (.aload_n 0, 1) := by decide +kernel
theorem dX7_film_1 : decode cX7_film 1 = .ok (.iload_n 1, 1) := by decide +kernel
theorem dX7_film_2 : decode cX7_film 2 = .ok (.iload_n 2, 1) := by decide +kernel
theorem dX7_film_3 : decode cX7_film 3 = .ok (.iload_n 3, 1) := by decide +kernel
theorem dX7_film_4 : decode cX7_film 4 = .ok (.bipush 12, 2) := by decide +kernel
theorem dX7_film_6 : decode cX7_film 6 = .ok (.invokevirtual 246, 3) := by decide +kernel
theorem dX7_film_9 : decode cX7_film 9 = .ok (.istore 4, 2) := by decide +kernel
theorem dX7_film_11 : decode cX7_film 11 = .ok (.iload 4, 2) := by decide +kernel
theorem dX7_film_13 : decode cX7_film 13 = .ok (.ifCond .eq 6, 3) := by decide +kernel
theorem dX7_film_16 : decode cX7_film 16 = .ok (.iload 4, 2) := by decide +kernel
theorem dX7_film_18 : decode cX7_film 18 = .ok (.ireturn, 1) := by decide +kernel
theorem dX7_film_19 : decode cX7_film 19 = .ok (.iconst 0, 1) := by decide +kernel
theorem dX7_film_20 : decode cX7_film 20 = .ok (.istore 5, 2) := by decide +kernel
theorem dX7_film_22 : decode cX7_film 22 = .ok (.iload 5, 2) := by decide +kernel
theorem dX7_film_24 : decode cX7_film 24 = .ok (.bipush 12, 2) := by decide +kernel
theorem dX7_film_26 : decode cX7_film 26 = .ok (.if_icmp .ge 31, 3) := by decide +kernel
theorem dX7_film_29 : decode cX7_film 29 = .ok (.aload_n 0, 1) := by decide +kernel
theorem dX7_film_30 : decode cX7_film 30 = .ok (.getfield 58, 3) := by decide +kernel
theorem dX7_film_33 : decode cX7_film 33 = .ok (.iload_n 1, 1) := by decide +kernel
theorem dX7_film_34 : decode cX7_film 34 = .ok (.aaload, 1) := by decide +kernel
theorem dX7_film_35 : decode cX7_film 35 = .ok (.iload_n 3, 1) := by decide +kernel
theorem dX7_film_36 : decode cX7_film 36 = .ok (.iload 5, 2) := by decide +kernel
theorem dX7_film_38 : decode cX7_film 38 = .ok (.iadd, 1) := by decide +kernel
theorem dX7_film_39 : decode cX7_film 39 = .ok (.aload_n 0, 1) := by decide +kernel
theorem dX7_film_40 : decode cX7_film 40 = .ok (.getfield 10, 3) := by decide +kernel
theorem dX7_film_43 : decode cX7_film 43 = .ok (.iload 5, 2) := by decide +kernel
theorem dX7_film_45 : decode cX7_film 45 = .ok (.invokevirtual 99, 3) := by decide +kernel
theorem dX7_film_48 : decode cX7_film 48 = .ok (.invokevirtual 262, 3) := by decide +kernel
theorem dX7_film_51 : decode cX7_film 51 = .ok (.iinc 5 1, 3) := by decide +kernel
theorem dX7_film_54 : decode cX7_film 54 = .ok (.goto (-32), 3) := by decide +kernel
theorem dX7_film_57 : decode cX7_film 57 = .ok (.bipush 12, 2) := by decide +kernel
theorem dX7_film_59 : decode cX7_film 59 = .ok (.ireturn, 1) := by decide +kernel
theorem dX7_sheet_0 : decode cX7_sheet 0 = .ok (.iload_n 1, 1) := by decide +kernel
theorem dX7_sheet_1 : decode cX7_sheet 1 = .ok (.invokestatic 265, 3) := by decide +kernel
theorem dX7_sheet_4 : decode cX7_sheet 4 = .ok (.ifCond .eq 18, 3) := by decide +kernel
theorem dX7_sheet_7 : decode cX7_sheet 7 = .ok (.iload_n 2, 1) := by decide +kernel
theorem dX7_sheet_8 : decode cX7_sheet 8 = .ok (.ifCond .lt 14, 3) := by decide +kernel
theorem dX7_sheet_11 : decode cX7_sheet 11 = .ok (.iload_n 2, 1) := by decide +kernel
theorem dX7_sheet_12 : decode cX7_sheet 12 = .ok (.iconst 3, 1) := by decide +kernel
theorem dX7_sheet_13 : decode cX7_sheet 13 = .ok (.if_icmp .ge 9, 3) := by decide +kernel
theorem dX7_sheet_16 : decode cX7_sheet 16 = .ok (.iload_n 3, 1) := by decide +kernel
theorem dX7_sheet_17 : decode cX7_sheet 17 = .ok (.bipush 24, 2) := by decide +kernel
theorem dX7_sheet_19 : decode cX7_sheet 19 = .ok (.if_icmp .le 5, 3) := by decide +kernel
theorem dX7_sheet_22 : decode cX7_sheet 22 = .ok (.iconst (-1), 1) := by decide +kernel
theorem dX7_sheet_23 : decode cX7_sheet 23 = .ok (.ireturn, 1) := by decide +kernel
theorem dX7_sheet_24 : decode cX7_sheet 24 = .ok (.iload_n 3, 1) := by decide +kernel
theorem dX7_sheet_25 : decode cX7_sheet 25 = .ok (.ifCond .ge 6, 3) := by decide +kernel
theorem dX7_sheet_28 : decode cX7_sheet 28 = .ok (.bipush (-14), 2) := by decide +kernel
theorem dX7_sheet_30 : decode cX7_sheet 30 = .ok (.ireturn, 1) := by decide +kernel
theorem dX7_sheet_31 : decode cX7_sheet 31 = .ok (.aload_n 0, 1) := by decide +kernel
theorem dX7_sheet_32 : decode cX7_sheet 32 = .ok (.getfield 58, 3) := by decide +kernel
theorem dX7_sheet_35 : decode cX7_sheet 35 = .ok (.iload_n 1, 1) := by decide +kernel
theorem dX7_sheet_36 : decode cX7_sheet 36 = .ok (.aaload, 1) := by decide +kernel
theorem dX7_sheet_37 : decode cX7_sheet 37 = .ok (.iload_n 2, 1) := by decide +kernel
theorem dX7_sheet_38 : decode cX7_sheet 38 = .ok (.iload_n 3, 1) := by decide +kernel
theorem dX7_sheet_39 : decode cX7_sheet 39 = .ok (.invokevirtual 268, 3) := by decide +kernel
theorem dX7_sheet_42 : decode cX7_sheet 42 = .ok (.iload_n 3, 1) := by decide +kernel
theorem dX7_sheet_43 : decode cX7_sheet 43 = .ok (.ireturn, 1) := by decide +kernel
theorem dX7_drop_0 : decode cX7_drop 0 = .ok (.iload_n 1, 1) := by decide +kernel
theorem dX7_drop_1 : decode cX7_drop 1 = .ok (.invokestatic 265, 3) := by decide +kernel
theorem dX7_drop_4 : decode cX7_drop 4 = .ok (.ifCond .ne 5, 3) := by decide +kernel
theorem dX7_drop_7 : decode cX7_drop 7 = .ok (.iconst (-1), 1) := by decide +kernel
theorem dX7_drop_8 : decode cX7_drop 8 = .ok (.ireturn, 1) := by decide +kernel
theorem dX7_drop_9 : decode cX7_drop 9 = .ok (.aload_n 0, 1) := by decide +kernel
theorem dX7_drop_10 : decode cX7_drop 10 = .ok (.getfield 58, 3) := by decide +kernel
theorem dX7_drop_13 : decode cX7_drop 13 = .ok (.iload_n 1, 1) := by decide +kernel
theorem dX7_drop_14 : decode cX7_drop 14 = .ok (.aaload, 1) := by decide +kernel
theorem dX7_drop_15 : decode cX7_drop 15 = .ok (.getfield 271, 3) := by decide +kernel
theorem dX7_drop_18 : decode cX7_drop 18 = .ok (.ifCond .ne 6, 3) := by decide +kernel
theorem dX7_drop_21 : decode cX7_drop 21 = .ok (.bipush (-11), 2) := by decide +kernel
theorem dX7_drop_23 : decode cX7_drop 23 = .ok (.ireturn, 1) := by decide +kernel
theorem dX7_drop_24 : decode cX7_drop 24 = .ok (.aload_n 0, 1) := by decide +kernel
theorem dX7_drop_25 : decode cX7_drop 25 = .ok (.getfield 58, 3) := by decide +kernel
theorem dX7_drop_28 : decode cX7_drop 28 = .ok (.iload_n 1, 1) := by decide +kernel
theorem dX7_drop_29 : decode cX7_drop 29 = .ok (.aaload, 1) := by decide +kernel
theorem dX7_drop_30 : decode cX7_drop 30 = .ok (.iconst 0, 1) := by decide +kernel
theorem dX7_drop_31 : decode cX7_drop 31 = .ok (.putfield 271, 3) := by decide +kernel
theorem dX7_drop_34 : decode cX7_drop 34 = .ok (.aload_n 0, 1) := by decide +kernel
theorem dX7_drop_35 : decode cX7_drop 35 = .ok (.getfield 58, 3) := by decide +kernel
theorem dX7_drop_38 : decode cX7_drop 38 = .ok (.iload_n 1, 1) := by decide +kernel
theorem dX7_drop_39 : decode cX7_drop 39 = .ok (.aaload, 1) := by decide +kernel
theorem dX7_drop_40 : decode cX7_drop 40 = .ok (.getfield 274, 3) := by decide +kernel
theorem dX7_drop_43 : decode cX7_drop 43 = .ok (.ireturn, 1) := by decide +kernel
theorem dX7_item_0 : decode cX7_item 0 = .ok (.aload_n 0, 1) := by decide +kernel
theorem dX7_item_1 : decode cX7_item 1 = .ok (.iload_n 1, 1) := by decide +kernel
theorem dX7_item_2 : decode cX7_item 2 = .ok (.iload_n 2, 1) := by decide +kernel
theorem dX7_item_3 : decode cX7_item 3 = .ok (.iload_n 3, 1) := by decide +kernel
theorem dX7_item_4 : decode cX7_item 4 = .ok (.iconst 1, 1) := by decide +kernel
theorem dX7_item_5 : decode cX7_item 5 = .ok (.invokevirtual 246, 3) := by decide +kernel
theorem dX7_item_8 : decode cX7_item 8 = .ok (.istore 5, 2) := by decide +kernel
theorem dX7_item_10 : decode cX7_item 10 = .ok (.iload 5, 2) := by decide +kernel
theorem dX7_item_12 : decode cX7_item 12 = .ok (.ifCond .eq 6, 3) := by decide +kernel
theorem dX7_item_15 : decode cX7_item 15 = .ok (.iload 5, 2) := by decide +kernel
theorem dX7_item_17 : decode cX7_item 17 = .ok (.ireturn, 1) := by decide +kernel
theorem dX7_item_18 : decode cX7_item 18 = .ok (.aload_n 0, 1) := by decide +kernel
theorem dX7_item_19 : decode cX7_item 19 = .ok (.getfield 58, 3) := by decide +kernel
theorem dX7_item_22 : decode cX7_item 22 = .ok (.iload_n 1, 1) := by decide +kernel
theorem dX7_item_23 : decode cX7_item 23 = .ok (.aaload, 1) := by decide +kernel
theorem dX7_item_24 : decode cX7_item 24 = .ok (.iload_n 3, 1) := by decide +kernel
theorem dX7_item_25 : decode cX7_item 25 = .ok (.iload 4, 2) := by decide +kernel
theorem dX7_item_27 : decode cX7_item 27 = .ok (.invokevirtual 262, 3) := by decide +kernel
theorem dX7_item_30 : decode cX7_item 30 = .ok (.iconst 1, 1) := by decide +kernel
theorem dX7_item_31 : decode cX7_item 31 = .ok (.ireturn, 1) := by decide +kernel
theorem dX7_copy_0 : decode cX7_copy 0 = .ok (.iload_n 1, 1) := by decide +kernel
theorem dX7_copy_1 : decode cX7_copy 1 = .ok (.invokestatic 265, 3) := by decide +kernel
theorem dX7_copy_4 : decode cX7_copy 4 = .ok (.ifCond .eq 10, 3) := by decide +kernel
theorem dX7_copy_7 : decode cX7_copy 7 = .ok (.iload_n 3, 1) := by decide +kernel
theorem dX7_copy_8 : decode cX7_copy 8 = .ok (.invokestatic 265, 3) := by decide +kernel
theorem dX7_copy_11 : decode cX7_copy 11 = .ok (.ifCond .ne 5, 3) := by decide +kernel
theorem dX7_copy_14 : decode cX7_copy 14 = .ok (.iconst (-1), 1) := by decide +kernel
theorem dX7_copy_15 : decode cX7_copy 15 = .ok (.ireturn, 1) := by decide +kernel
theorem dX7_copy_16 : decode cX7_copy 16 = .ok (.aload_n 0, 1) := by decide +kernel
theorem dX7_copy_17 : decode cX7_copy 17 = .ok (.getfield 58, 3) := by decide +kernel
theorem dX7_copy_20 : decode cX7_copy 20 = .ok (.iload_n 1, 1) := by decide +kernel
theorem dX7_copy_21 : decode cX7_copy 21 = .ok (.aaload, 1) := by decide +kernel
theorem dX7_copy_22 : decode cX7_copy 22 = .ok (.astore 6, 2) := by decide +kernel
theorem dX7_copy_24 : decode cX7_copy 24 = .ok (.aload_n 0, 1) := by decide +kernel
theorem dX7_copy_25 : decode cX7_copy 25 = .ok (.getfield 58, 3) := by decide +kernel
theorem dX7_copy_28 : decode cX7_copy 28 = .ok (.iload_n 3, 1) := by decide +kernel
theorem dX7_copy_29 : decode cX7_copy 29 = .ok (.aaload, 1) := by decide +kernel
theorem dX7_copy_30 : decode cX7_copy 30 = .ok (.astore 7, 2) := by decide +kernel
theorem dX7_copy_32 : decode cX7_copy 32 = .ok (.aload 6, 2) := by decide +kernel
theorem dX7_copy_34 : decode cX7_copy 34 = .ok (.getfield 271, 3) := by decide +kernel
theorem dX7_copy_37 : decode cX7_copy 37 = .ok (.ifCond .eq 11, 3) := by decide +kernel
theorem dX7_copy_40 : decode cX7_copy 40 = .ok (.aload 7, 2) := by decide +kernel
theorem dX7_copy_42 : decode cX7_copy 42 = .ok (.getfield 271, 3) := by decide +kernel
theorem dX7_copy_45 : decode cX7_copy 45 = .ok (.ifCond .ne 6, 3) := by decide +kernel
theorem dX7_copy_48 : decode cX7_copy 48 = .ok (.bipush (-11), 2) := by decide +kernel
theorem dX7_copy_50 : decode cX7_copy 50 = .ok (.ireturn, 1) := by decide +kernel
theorem dX7_copy_51 : decode cX7_copy 51 = .ok (.aload 6, 2) := by decide +kernel
theorem dX7_copy_53 : decode cX7_copy 53 = .ok (.getfield 275, 3) := by decide +kernel
theorem dX7_copy_56 : decode cX7_copy 56 = .ok (.aload 7, 2) := by decide +kernel
theorem dX7_copy_58 : decode cX7_copy 58 = .ok (.getfield 275, 3) := by decide +kernel
theorem dX7_copy_61 : decode cX7_copy 61 = .ok (.if_icmp .eq 6, 3) := by decide +kernel
theorem dX7_copy_64 : decode cX7_copy 64 = .ok (.bipush (-12), 2) := by decide +kernel
theorem dX7_copy_66 : decode cX7_copy 66 = .ok (.ireturn, 1) := by decide +kernel
theorem dX7_copy_67 : decode cX7_copy 67 = .ok (.aload 6, 2) := by decide +kernel
theorem dX7_copy_69 : decode cX7_copy 69 = .ok (.iload_n 2, 1) := by decide +kernel
theorem dX7_copy_70 : decode cX7_copy 70 = .ok (.iload 5, 2) := by decide +kernel
theorem dX7_copy_72 : decode cX7_copy 72 = .ok (.invokevirtual 278, 3) := by decide +kernel
theorem dX7_copy_75 : decode cX7_copy 75 = .ok (.ifCond .eq 15, 3) := by decide +kernel
theorem dX7_copy_78 : decode cX7_copy 78 = .ok (.aload 7, 2) := by decide +kernel
theorem dX7_copy_80 : decode cX7_copy 80 = .ok (.iload 4, 2) := by decide +kernel
theorem dX7_copy_82 : decode cX7_copy 82 = .ok (.iload 5, 2) := by decide +kernel
theorem dX7_copy_84 : decode cX7_copy 84 = .ok (.invokevirtual 278, 3) := by decide +kernel
theorem dX7_copy_87 : decode cX7_copy 87 = .ok (.ifCond .ne 6, 3) := by decide +kernel
theorem dX7_copy_90 : decode cX7_copy 90 = .ok (.bipush (-13), 2) := by decide +kernel
theorem dX7_copy_92 : decode cX7_copy 92 = .ok (.ireturn, 1) := by decide +kernel
theorem dX7_copy_93 : decode cX7_copy 93 = .ok (.aload 6, 2) := by decide +kernel
theorem dX7_copy_95 : decode cX7_copy 95 = .ok (.getfield 253, 3) := by decide +kernel
theorem dX7_copy_98 : decode cX7_copy 98 = .ok (.iload_n 2, 1) := by decide +kernel
theorem dX7_copy_99 : decode cX7_copy 99 = .ok (.aload 7, 2) := by decide +kernel
theorem dX7_copy_101 : decode cX7_copy 101 = .ok (.getfield 253, 3) := by decide +kernel
theorem dX7_copy_104 : decode cX7_copy 104 = .ok (.iload 4, 2) := by decide +kernel
theorem dX7_copy_106 : decode cX7_copy 106 = .ok (.iload 5, 2) := by decide +kernel
theorem dX7_copy_108 : decode cX7_copy 108 = .ok (.invokestatic 256, 3) := by decide +kernel
theorem dX7_copy_111 : decode cX7_copy 111 = .ok (.iload 5, 2) := by decide +kernel
theorem dX7_copy_113 : decode cX7_copy 113 = .ok (.ireturn, 1) := by decide +kernel
theorem dX7_byteOf_0 : decode cX7_byteOf 0 = .ok (.lload_n 0, 1) := by decide +kernel
theorem dX7_byteOf_1 : decode cX7_byteOf 1 = .ok (.bipush 8, 2) := by decide +kernel
theorem dX7_byteOf_3 : decode cX7_byteOf 3 = .ok (.iload_n 2, 1) := by decide +kernel
theorem dX7_byteOf_4 : decode cX7_byteOf 4 = .ok (.imul, 1) := by decide +kernel
theorem dX7_byteOf_5 : decode cX7_byteOf 5 = .ok (.lushr, 1) := by decide +kernel
theorem dX7_byteOf_6 : decode cX7_byteOf 6 = .ok (.l2i, 1) := by decide +kernel
theorem dX7_byteOf_7 : decode cX7_byteOf 7 = .ok (.sipush 255, 3) := by decide +kernel
theorem dX7_byteOf_10 : decode cX7_byteOf 10 = .ok (.iand, 1) := by decide +kernel
theorem dX7_byteOf_11 : decode cX7_byteOf 11 = .ok (.ireturn, 1) := by decide +kernel
theorem dX7_happens_0 : decode cX7_happens 0 = .ok (.iload_n 1, 1) := by decide +kernel
theorem dX7_happens_1 : decode cX7_happens 1 = .ok (.tableswitch 69 0 2 #[27, 41, 55], 27) := by decide +kernel
theorem dX7_happens_28 : decode cX7_happens 28 = .ok (.aload_n 0, 1) := by decide +kernel
theorem dX7_happens_29 : decode cX7_happens 29 = .ok (.iload_n 2, 1) := by decide +kernel
theorem dX7_happens_30 : decode cX7_happens 30 = .ok (.invokevirtual 281, 3) := by decide +kernel
theorem dX7_happens_33 : decode cX7_happens 33 = .ok (.ifCond .lt 7, 3) := by decide +kernel
theorem dX7_happens_36 : decode cX7_happens 36 = .ok (.iconst 1, 1) := by decide +kernel
theorem dX7_happens_37 : decode cX7_happens 37 = .ok (.goto 4, 3) := by decide +kernel
theorem dX7_happens_40 : decode cX7_happens 40 = .ok (.iconst 0, 1) := by decide +kernel
theorem dX7_happens_41 : decode cX7_happens 41 = .ok (.ireturn, 1) := by decide +kernel
theorem dX7_happens_42 : decode cX7_happens 42 = .ok (.aload_n 0, 1) := by decide +kernel
theorem dX7_happens_43 : decode cX7_happens 43 = .ok (.iload_n 2, 1) := by decide +kernel
theorem dX7_happens_44 : decode cX7_happens 44 = .ok (.invokevirtual 284, 3) := by decide +kernel
theorem dX7_happens_47 : decode cX7_happens 47 = .ok (.ifCond .lt 7, 3) := by decide +kernel
theorem dX7_happens_50 : decode cX7_happens 50 = .ok (.iconst 1, 1) := by decide +kernel
theorem dX7_happens_51 : decode cX7_happens 51 = .ok (.goto 4, 3) := by decide +kernel
theorem dX7_happens_54 : decode cX7_happens 54 = .ok (.iconst 0, 1) := by decide +kernel
theorem dX7_happens_55 : decode cX7_happens 55 = .ok (.ireturn, 1) := by decide +kernel
theorem dX7_happens_56 : decode cX7_happens 56 = .ok (.aload_n 0, 1) := by decide +kernel
theorem dX7_happens_57 : decode cX7_happens 57 = .ok (.iload_n 2, 1) := by decide +kernel
theorem dX7_happens_58 : decode cX7_happens 58 = .ok (.invokevirtual 287, 3) := by decide +kernel
theorem dX7_happens_61 : decode cX7_happens 61 = .ok (.ifCond .lt 7, 3) := by decide +kernel
theorem dX7_happens_64 : decode cX7_happens 64 = .ok (.iconst 1, 1) := by decide +kernel
theorem dX7_happens_65 : decode cX7_happens 65 = .ok (.goto 4, 3) := by decide +kernel
theorem dX7_happens_68 : decode cX7_happens 68 = .ok (.iconst 0, 1) := by decide +kernel
theorem dX7_happens_69 : decode cX7_happens 69 = .ok (.ireturn, 1) := by decide +kernel
theorem dX7_happens_70 : decode cX7_happens 70 = .ok (.aload_n 0, 1) := by decide +kernel
theorem dX7_happens_71 : decode cX7_happens 71 = .ok (.iconst 1, 1) := by decide +kernel
theorem dX7_happens_72 : decode cX7_happens 72 = .ok (.invokevirtual 290, 3) := by decide +kernel
theorem dX7_happens_75 : decode cX7_happens 75 = .ok (.ifCond .lt 7, 3) := by decide +kernel
theorem dX7_happens_78 : decode cX7_happens 78 = .ok (.iconst 1, 1) := by decide +kernel
theorem dX7_happens_79 : decode cX7_happens 79 = .ok (.goto 4, 3) := by decide +kernel
theorem dX7_happens_82 : decode cX7_happens 82 = .ok (.iconst 0, 1) := by decide +kernel
theorem dX7_happens_83 : decode cX7_happens 83 = .ok (.ireturn, 1) := by decide +kernel
theorem dX7_canBeAskedFor_0 : decode cX7_canBeAskedFor 0 = .ok (.iload_n 2, 1) := by decide +kernel
theorem dX7_canBeAskedFor_1 : decode cX7_canBeAskedFor 1 = .ok (.ifCond .lt 40, 3) := by decide +kernel
theorem dX7_canBeAskedFor_4 : decode cX7_canBeAskedFor 4 = .ok (.iload_n 2, 1) := by decide +kernel
theorem dX7_canBeAskedFor_5 : decode cX7_canBeAskedFor 5 = .ok (.iconst 2, 1) := by decide +kernel
theorem dX7_canBeAskedFor_6 : decode cX7_canBeAskedFor 6 = .ok (.if_icmp .gt 35, 3) := by decide +kernel
theorem dX7_canBeAskedFor_9 : decode cX7_canBeAskedFor 9 = .ok (.iload_n 1, 1) := by decide +kernel
theorem dX7_canBeAskedFor_10 : decode cX7_canBeAskedFor 10 = .ok (.ifCond .eq 31, 3) := by decide +kernel
theorem dX7_canBeAskedFor_13 : decode cX7_canBeAskedFor 13 = .ok (.iload_n 1, 1) := by decide +kernel
theorem dX7_canBeAskedFor_14 : decode cX7_canBeAskedFor 14 = .ok (.invokestatic 231, 3) := by decide +kernel
theorem dX7_canBeAskedFor_17 : decode cX7_canBeAskedFor 17 = .ok (.iconst 4, 1) := by decide +kernel
theorem dX7_canBeAskedFor_18 : decode cX7_canBeAskedFor 18 = .ok (.if_icmp .gt 23, 3) := by decide +kernel
theorem dX7_canBeAskedFor_21 : decode cX7_canBeAskedFor 21 = .ok (.iload_n 1, 1) := by decide +kernel
theorem dX7_canBeAskedFor_22 : decode cX7_canBeAskedFor 22 = .ok (.aload_n 0, 1) := by decide +kernel
theorem dX7_canBeAskedFor_23 : decode cX7_canBeAskedFor 23 = .ok (.getfield 10, 3) := by decide +kernel
theorem dX7_canBeAskedFor_26 : decode cX7_canBeAskedFor 26 = .ok (.bipush 12, 2) := by decide +kernel
theorem dX7_canBeAskedFor_28 : decode cX7_canBeAskedFor 28 = .ok (.invokevirtual 95, 3) := by decide +kernel
theorem dX7_canBeAskedFor_31 : decode cX7_canBeAskedFor 31 = .ok (.iconst (-1), 1) := by decide +kernel
theorem dX7_canBeAskedFor_32 : decode cX7_canBeAskedFor 32 = .ok (.ixor, 1) := by decide +kernel
theorem dX7_canBeAskedFor_33 : decode cX7_canBeAskedFor 33 = .ok (.iand, 1) := by decide +kernel
theorem dX7_canBeAskedFor_34 : decode cX7_canBeAskedFor 34 = .ok (.ifCond .ne 7, 3) := by decide +kernel
theorem dX7_canBeAskedFor_37 : decode cX7_canBeAskedFor 37 = .ok (.iconst 1, 1) := by decide +kernel
theorem dX7_canBeAskedFor_38 : decode cX7_canBeAskedFor 38 = .ok (.goto 4, 3) := by decide +kernel
theorem dX7_canBeAskedFor_41 : decode cX7_canBeAskedFor 41 = .ok (.iconst 0, 1) := by decide +kernel
theorem dX7_canBeAskedFor_42 : decode cX7_canBeAskedFor 42 = .ok (.ireturn, 1) := by decide +kernel
theorem dX7_helpsBySand_0 : decode cX7_helpsBySand 0 = .ok (.aload_n 0, 1) := by decide +kernel
theorem dX7_helpsBySand_1 : decode cX7_helpsBySand 1 = .ok (.getfield 10, 3) := by decide +kernel
theorem dX7_helpsBySand_4 : decode cX7_helpsBySand 4 = .ok (.getfield 105, 3) := by decide +kernel
theorem dX7_helpsBySand_7 : decode cX7_helpsBySand 7 = .ok (.iload_n 1, 1) := by decide +kernel
theorem dX7_helpsBySand_8 : decode cX7_helpsBySand 8 = .ok (.iaload, 1) := by decide +kernel
theorem dX7_helpsBySand_9 : decode cX7_helpsBySand 9 = .ok (.iload_n 2, 1) := by decide +kernel
theorem dX7_helpsBySand_10 : decode cX7_helpsBySand 10 = .ok (.iadd, 1) := by decide +kernel
theorem dX7_helpsBySand_11 : decode cX7_helpsBySand 11 = .ok (.bipush 99, 2) := by decide +kernel
theorem dX7_helpsBySand_13 : decode cX7_helpsBySand 13 = .ok (.if_icmp .le 5, 3) := by decide +kernel
theorem dX7_helpsBySand_16 : decode cX7_helpsBySand 16 = .ok (.iconst 0, 1) := by decide +kernel
theorem dX7_helpsBySand_17 : decode cX7_helpsBySand 17 = .ok (.ireturn, 1) := by decide +kernel
theorem dX7_helpsBySand_18 : decode cX7_helpsBySand 18 = .ok (.aload_n 0, 1) := by decide +kernel
theorem dX7_helpsBySand_19 : decode cX7_helpsBySand 19 = .ok (.getfield 52, 3) := by decide +kernel
theorem dX7_helpsBySand_22 : decode cX7_helpsBySand 22 = .ok (.iload_n 1, 1) := by decide +kernel
theorem dX7_helpsBySand_23 : decode cX7_helpsBySand 23 = .ok (.iload_n 2, 1) := by decide +kernel
theorem dX7_helpsBySand_24 : decode cX7_helpsBySand 24 = .ok (.invokevirtual 224, 3) := by decide +kernel
theorem dX7_helpsBySand_27 : decode cX7_helpsBySand 27 = .ok (.aload_n 0, 1) := by decide +kernel
theorem dX7_helpsBySand_28 : decode cX7_helpsBySand 28 = .ok (.getfield 52, 3) := by decide +kernel
theorem dX7_helpsBySand_31 : decode cX7_helpsBySand 31 = .ok (.aload_n 0, 1) := by decide +kernel
theorem dX7_helpsBySand_32 : decode cX7_helpsBySand 32 = .ok (.getfield 10, 3) := by decide +kernel
theorem dX7_helpsBySand_35 : decode cX7_helpsBySand 35 = .ok (.getfield 115, 3) := by decide +kernel
theorem dX7_helpsBySand_38 : decode cX7_helpsBySand 38 = .ok (.invokevirtual 112, 3) := by decide +kernel
theorem dX7_helpsBySand_41 : decode cX7_helpsBySand 41 = .ok (.istore_n 3, 1) := by decide +kernel
theorem dX7_helpsBySand_42 : decode cX7_helpsBySand 42 = .ok (.aload_n 0, 1) := by decide +kernel
theorem dX7_helpsBySand_43 : decode cX7_helpsBySand 43 = .ok (.getfield 52, 3) := by decide +kernel
theorem dX7_helpsBySand_46 : decode cX7_helpsBySand 46 = .ok (.iload_n 1, 1) := by decide +kernel
theorem dX7_helpsBySand_47 : decode cX7_helpsBySand 47 = .ok (.iload_n 2, 1) := by decide +kernel
theorem dX7_helpsBySand_48 : decode cX7_helpsBySand 48 = .ok (.ineg, 1) := by decide +kernel
theorem dX7_helpsBySand_49 : decode cX7_helpsBySand 49 = .ok (.invokevirtual 224, 3) := by decide +kernel
theorem dX7_helpsBySand_52 : decode cX7_helpsBySand 52 = .ok (.iload_n 3, 1) := by decide +kernel
theorem dX7_helpsBySand_53 : decode cX7_helpsBySand 53 = .ok (.ireturn, 1) := by decide +kernel
theorem dX7_isSheet_0 : decode cX7_isSheet 0 = .ok (.iload_n 0, 1) := by decide +kernel
theorem dX7_isSheet_1 : decode cX7_isSheet 1 = .ok (.ifCond .lt 12, 3) := by decide +kernel
theorem dX7_isSheet_4 : decode cX7_isSheet 4 = .ok (.iload_n 0, 1) := by decide +kernel
theorem dX7_isSheet_5 : decode cX7_isSheet 5 = .ok (.iconst 4, 1) := by decide +kernel
theorem dX7_isSheet_6 : decode cX7_isSheet 6 = .ok (.if_icmp .ge 7, 3) := by decide +kernel
theorem dX7_isSheet_9 : decode cX7_isSheet 9 = .ok (.iconst 1, 1) := by decide +kernel
theorem dX7_isSheet_10 : decode cX7_isSheet 10 = .ok (.goto 4, 3) := by decide +kernel
theorem dX7_isSheet_13 : decode cX7_isSheet 13 = .ok (.iconst 0, 1) := by decide +kernel
theorem dX7_isSheet_14 : decode cX7_isSheet 14 = .ok (.ireturn, 1) := by decide +kernel
theorem dX7_refusalOfRow_0 : decode cX7_refusalOfRow 0 = .ok (.iload_n 1, 1) := by decide +kernel
theorem dX7_refusalOfRow_1 : decode cX7_refusalOfRow 1 = .ok (.invokestatic 265, 3) := by decide +kernel
theorem dX7_refusalOfRow_4 : decode cX7_refusalOfRow 4 = .ok (.ifCond .eq 12, 3) := by decide +kernel
theorem dX7_refusalOfRow_7 : decode cX7_refusalOfRow 7 = .ok (.iload_n 2, 1) := by decide +kernel
theorem dX7_refusalOfRow_8 : decode cX7_refusalOfRow 8 = .ok (.ifCond .lt 8, 3) := by decide +kernel
theorem dX7_refusalOfRow_11 : decode cX7_refusalOfRow 11 = .ok (.iload_n 2, 1) := by decide +kernel
theorem dX7_refusalOfRow_12 : decode cX7_refusalOfRow 12 = .ok (.iconst 3, 1) := by decide +kernel
theorem dX7_refusalOfRow_13 : decode cX7_refusalOfRow 13 = .ok (.if_icmp .lt 5, 3) := by decide +kernel
theorem dX7_refusalOfRow_16 : decode cX7_refusalOfRow 16 = .ok (.iconst (-1), 1) := by decide +kernel
theorem dX7_refusalOfRow_17 : decode cX7_refusalOfRow 17 = .ok (.ireturn, 1) := by decide +kernel
theorem dX7_refusalOfRow_18 : decode cX7_refusalOfRow 18 = .ok (.aload_n 0, 1) := by decide +kernel
theorem dX7_refusalOfRow_19 : decode cX7_refusalOfRow 19 = .ok (.getfield 58, 3) := by decide +kernel
theorem dX7_refusalOfRow_22 : decode cX7_refusalOfRow 22 = .ok (.iload_n 1, 1) := by decide +kernel
theorem dX7_refusalOfRow_23 : decode cX7_refusalOfRow 23 = .ok (.aaload, 1) := by decide +kernel
theorem dX7_refusalOfRow_24 : decode cX7_refusalOfRow 24 = .ok (.getfield 271, 3) := by decide +kernel
theorem dX7_refusalOfRow_27 : decode cX7_refusalOfRow 27 = .ok (.ifCond .ne 6, 3) := by decide +kernel
theorem dX7_refusalOfRow_30 : decode cX7_refusalOfRow 30 = .ok (.bipush (-11), 2) := by decide +kernel
theorem dX7_refusalOfRow_32 : decode cX7_refusalOfRow 32 = .ok (.ireturn, 1) := by decide +kernel
theorem dX7_refusalOfRow_33 : decode cX7_refusalOfRow 33 = .ok (.aload_n 0, 1) := by decide +kernel
theorem dX7_refusalOfRow_34 : decode cX7_refusalOfRow 34 = .ok (.getfield 58, 3) := by decide +kernel
theorem dX7_refusalOfRow_37 : decode cX7_refusalOfRow 37 = .ok (.iload_n 1, 1) := by decide +kernel
theorem dX7_refusalOfRow_38 : decode cX7_refusalOfRow 38 = .ok (.aaload, 1) := by decide +kernel
theorem dX7_refusalOfRow_39 : decode cX7_refusalOfRow 39 = .ok (.getfield 275, 3) := by decide +kernel
theorem dX7_refusalOfRow_42 : decode cX7_refusalOfRow 42 = .ok (.iload_n 2, 1) := by decide +kernel
theorem dX7_refusalOfRow_43 : decode cX7_refusalOfRow 43 = .ok (.if_icmp .eq 6, 3) := by decide +kernel
theorem dX7_refusalOfRow_46 : decode cX7_refusalOfRow 46 = .ok (.bipush (-12), 2) := by decide +kernel
theorem dX7_refusalOfRow_48 : decode cX7_refusalOfRow 48 = .ok (.ireturn, 1) := by decide +kernel
theorem dX7_refusalOfRow_49 : decode cX7_refusalOfRow 49 = .ok (.aload_n 0, 1) := by decide +kernel
theorem dX7_refusalOfRow_50 : decode cX7_refusalOfRow 50 = .ok (.getfield 58, 3) := by decide +kernel
theorem dX7_refusalOfRow_53 : decode cX7_refusalOfRow 53 = .ok (.iload_n 1, 1) := by decide +kernel
theorem dX7_refusalOfRow_54 : decode cX7_refusalOfRow 54 = .ok (.aaload, 1) := by decide +kernel
theorem dX7_refusalOfRow_55 : decode cX7_refusalOfRow 55 = .ok (.iload_n 3, 1) := by decide +kernel
theorem dX7_refusalOfRow_56 : decode cX7_refusalOfRow 56 = .ok (.iload 4, 2) := by decide +kernel
theorem dX7_refusalOfRow_58 : decode cX7_refusalOfRow 58 = .ok (.invokevirtual 278, 3) := by decide +kernel
theorem dX7_refusalOfRow_61 : decode cX7_refusalOfRow 61 = .ok (.ifCond .eq 7, 3) := by decide +kernel
theorem dX7_refusalOfRow_64 : decode cX7_refusalOfRow 64 = .ok (.iconst 0, 1) := by decide +kernel
theorem dX7_refusalOfRow_65 : decode cX7_refusalOfRow 65 = .ok (.goto 5, 3) := by decide +kernel
theorem dX7_refusalOfRow_68 : decode cX7_refusalOfRow 68 = .ok (.bipush (-13), 2) := by decide +kernel
theorem dX7_refusalOfRow_70 : decode cX7_refusalOfRow 70 = .ok (.ireturn, 1) := by decide +kernel
