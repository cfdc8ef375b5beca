abbrev cJ_abs : ByteArray := prog_16_method_59_code
def yJ_abs : MethodName := ⟨"java/lang/Math", "abs", "(I)I"⟩
theorem dJ_abs_0 : decode cJ_abs 0 = .ok (.iload_n 0, 1) := by decide +kernel
theorem dJ_abs_1 : decode cJ_abs 1 = .ok (.ifCond .ge 8, 3) := by decide +kernel
theorem dJ_abs_4 : decode cJ_abs 4 = .ok (.iload_n 0, 1) := by decide +kernel
theorem dJ_abs_5 : decode cJ_abs 5 = .ok (.ineg, 1) := by decide +kernel
theorem dJ_abs_6 : decode cJ_abs 6 = .ok (.goto 4, 3) := by decide +kernel
theorem dJ_abs_9 : decode cJ_abs 9 = .ok (.iload_n 0, 1) := by decide +kernel
theorem dJ_abs_10 : decode cJ_abs 10 = .ok (.ireturn, 1) := by decide +kernel
abbrev cJ_max : ByteArray := prog_16_method_65_code
def yJ_max : MethodName := ⟨"java/lang/Math", "max", "(II)I"⟩
theorem dJ_max_0 : decode cJ_max 0 = .ok (.iload_n 0, 1) := by decide +kernel
theorem dJ_max_1 : decode cJ_max 1 = .ok (.iload_n 1, 1) := by decide +kernel
theorem dJ_max_2 : decode cJ_max 2 = .ok (.if_icmp .lt 7, 3) := by decide +kernel
theorem dJ_max_5 : decode cJ_max 5 = .ok (.iload_n 0, 1) := by decide +kernel
theorem dJ_max_6 : decode cJ_max 6 = .ok (.goto 4, 3) := by decide +kernel
theorem dJ_max_9 : decode cJ_max 9 = .ok (.iload_n 1, 1) := by decide +kernel
theorem dJ_max_10 : decode cJ_max 10 = .ok (.ireturn, 1) := by decide +kernel
abbrev cJ_min : ByteArray := prog_16_method_69_code
def yJ_min : MethodName := ⟨"java/lang/Math", "min", "(II)I"⟩
theorem dJ_min_0 : decode cJ_min 0 = .ok (.iload_n 0, 1) := by decide +kernel
theorem dJ_min_1 : decode cJ_min 1 = .ok (.iload_n 1, 1) := by decide +kernel
theorem dJ_min_2 : decode cJ_min 2 = .ok (.if_icmp .gt 7, 3) := by decide +kernel
theorem dJ_min_5 : decode cJ_min 5 = .ok (.iload_n 0, 1) := by decide +kernel
theorem dJ_min_6 : decode cJ_min 6 = .ok (.goto 4, 3) := by decide +kernel
theorem dJ_min_9 : decode cJ_min 9 = .ok (.iload_n 1, 1) := by decide +kernel
theorem dJ_min_10 : decode cJ_min 10 = .ok (.ireturn, 1) := by decide +kernel
abbrev cJ_minl : ByteArray := prog_16_method_70_code
def yJ_minl : MethodName := ⟨"java/lang/Math", "min", "(JJ)J"⟩
theorem dJ_minl_0 : decode cJ_minl 0 = .ok (.lload_n 0, 1) := by decide +kernel
theorem dJ_minl_1 : decode cJ_minl 1 = .ok (.lload_n 2, 1) := by decide +kernel
theorem dJ_minl_2 : decode cJ_minl 2 = .ok (.lcmp, 1) := by decide +kernel
theorem dJ_minl_3 : decode cJ_minl 3 = .ok (.ifCond .gt 7, 3) := by decide +kernel
theorem dJ_minl_6 : decode cJ_minl 6 = .ok (.lload_n 0, 1) := by decide +kernel
theorem dJ_minl_7 : decode cJ_minl 7 = .ok (.goto 4, 3) := by decide +kernel
theorem dJ_minl_10 : decode cJ_minl 10 = .ok (.lload_n 2, 1) := by decide +kernel
theorem dJ_minl_11 : decode cJ_minl 11 = .ok (.lreturn, 1) := by decide +kernel
abbrev cJ_floorMod : ByteArray := prog_16_method_50_code
def yJ_floorMod : MethodName := ⟨"java/lang/Math", "floorMod", "(II)I"⟩
theorem dJ_floorMod_0 : decode cJ_floorMod 0 = .ok (.iload_n 0, 1) := by decide +kernel
theorem dJ_floorMod_1 : decode cJ_floorMod 1 = .ok (.iload_n 1, 1) := by decide +kernel
theorem dJ_floorMod_2 : decode cJ_floorMod 2 = .ok (.irem, 1) := by decide +kernel
theorem dJ_floorMod_3 : decode cJ_floorMod 3 = .ok (.istore_n 2, 1) := by decide +kernel
theorem dJ_floorMod_4 : decode cJ_floorMod 4 = .ok (.iload_n 0, 1) := by decide +kernel
theorem dJ_floorMod_5 : decode cJ_floorMod 5 = .ok (.iload_n 1, 1) := by decide +kernel
theorem dJ_floorMod_6 : decode cJ_floorMod 6 = .ok (.ixor, 1) := by decide +kernel
theorem dJ_floorMod_7 : decode cJ_floorMod 7 = .ok (.ifCond .ge 11, 3) := by decide +kernel
theorem dJ_floorMod_10 : decode cJ_floorMod 10 = .ok (.iload_n 2, 1) := by decide +kernel
theorem dJ_floorMod_11 : decode cJ_floorMod 11 = .ok (.ifCond .eq 7, 3) := by decide +kernel
theorem dJ_floorMod_14 : decode cJ_floorMod 14 = .ok (.iload_n 2, 1) := by decide +kernel
theorem dJ_floorMod_15 : decode cJ_floorMod 15 = .ok (.iload_n 1, 1) := by decide +kernel
theorem dJ_floorMod_16 : decode cJ_floorMod 16 = .ok (.iadd, 1) := by decide +kernel
theorem dJ_floorMod_17 : decode cJ_floorMod 17 = .ok (.ireturn, 1) := by decide +kernel
theorem dJ_floorMod_18 : decode cJ_floorMod 18 = .ok (.iload_n 2, 1) := by decide +kernel
theorem dJ_floorMod_19 : decode cJ_floorMod 19 = .ok (.ireturn, 1) := by decide +kernel
abbrev cJ_bitCount : ByteArray := prog_15_method_49_code
def yJ_bitCount : MethodName := ⟨"java/lang/Integer", "bitCount", "(I)I"⟩
theorem dJ_bitCount_0 : decode cJ_bitCount 0 = .ok (.iload_n 0, 1) := by decide +kernel
theorem dJ_bitCount_1 : decode cJ_bitCount 1 = .ok (.iload_n 0, 1) := by decide +kernel
theorem dJ_bitCount_2 : decode cJ_bitCount 2 = .ok (.iconst 1, 1) := by decide +kernel
theorem dJ_bitCount_3 : decode cJ_bitCount 3 = .ok (.iushr, 1) := by decide +kernel
theorem dJ_bitCount_4 : decode cJ_bitCount 4 = .ok (.ldc_w 265, 3) := by decide +kernel
theorem dJ_bitCount_7 : decode cJ_bitCount 7 = .ok (.iand, 1) := by decide +kernel
theorem dJ_bitCount_8 : decode cJ_bitCount 8 = .ok (.isub, 1) := by decide +kernel
theorem dJ_bitCount_9 : decode cJ_bitCount 9 = .ok (.istore_n 0, 1) := by decide +kernel
theorem dJ_bitCount_10 : decode cJ_bitCount 10 = .ok (.iload_n 0, 1) := by decide +kernel
theorem dJ_bitCount_11 : decode cJ_bitCount 11 = .ok (.ldc_w 266, 3) := by decide +kernel
theorem dJ_bitCount_14 : decode cJ_bitCount 14 = .ok (.iand, 1) := by decide +kernel
theorem dJ_bitCount_15 : decode cJ_bitCount 15 = .ok (.iload_n 0, 1) := by decide +kernel
theorem dJ_bitCount_16 : decode cJ_bitCount 16 = .ok (.iconst 2, 1) := by decide +kernel
theorem dJ_bitCount_17 : decode cJ_bitCount 17 = .ok (.iushr, 1) := by decide +kernel
theorem dJ_bitCount_18 : decode cJ_bitCount 18 = .ok (.ldc_w 266, 3) := by decide +kernel
theorem dJ_bitCount_21 : decode cJ_bitCount 21 = .ok (.iand, 1) := by decide +kernel
theorem dJ_bitCount_22 : decode cJ_bitCount 22 = .ok (.iadd, 1) := by decide +kernel
theorem dJ_bitCount_23 : decode cJ_bitCount 23 = .ok (.istore_n 0, 1) := by decide +kernel
theorem dJ_bitCount_24 : decode cJ_bitCount 24 = .ok (.iload_n 0, 1) := by decide +kernel
theorem dJ_bitCount_25 : decode cJ_bitCount 25 = .ok (.iload_n 0, 1) := by decide +kernel
theorem dJ_bitCount_26 : decode cJ_bitCount 26 = .ok (.iconst 4, 1) := by decide +kernel
theorem dJ_bitCount_27 : decode cJ_bitCount 27 = .ok (.iushr, 1) := by decide +kernel
theorem dJ_bitCount_28 : decode cJ_bitCount 28 = .ok (.iadd, 1) := by decide +kernel
theorem dJ_bitCount_29 : decode cJ_bitCount 29 = .ok (.ldc_w 267, 3) := by decide +kernel
theorem dJ_bitCount_32 : decode cJ_bitCount 32 = .ok (.iand, 1) := by decide +kernel
theorem dJ_bitCount_33 : decode cJ_bitCount 33 = .ok (.istore_n 0, 1) := by decide +kernel
theorem dJ_bitCount_34 : decode cJ_bitCount 34 = .ok (.iload_n 0, 1) := by decide +kernel
theorem dJ_bitCount_35 : decode cJ_bitCount 35 = .ok (.iload_n 0, 1) := by decide +kernel
theorem dJ_bitCount_36 : decode cJ_bitCount 36 = .ok (.bipush 8, 2) := by decide +kernel
theorem dJ_bitCount_38 : decode cJ_bitCount 38 = .ok (.iushr, 1) := by decide +kernel
theorem dJ_bitCount_39 : decode cJ_bitCount 39 = .ok (.iadd, 1) := by decide +kernel
theorem dJ_bitCount_40 : decode cJ_bitCount 40 = .ok (.istore_n 0, 1) := by decide +kernel
theorem dJ_bitCount_41 : decode cJ_bitCount 41 = .ok (.iload_n 0, 1) := by decide +kernel
theorem dJ_bitCount_42 : decode cJ_bitCount 42 = .ok (.iload_n 0, 1) := by decide +kernel
theorem dJ_bitCount_43 : decode cJ_bitCount 43 = .ok (.bipush 16, 2) := by decide +kernel
theorem dJ_bitCount_45 : decode cJ_bitCount 45 = .ok (.iushr, 1) := by decide +kernel
theorem dJ_bitCount_46 : decode cJ_bitCount 46 = .ok (.iadd, 1) := by decide +kernel
theorem dJ_bitCount_47 : decode cJ_bitCount 47 = .ok (.istore_n 0, 1) := by decide +kernel
theorem dJ_bitCount_48 : decode cJ_bitCount 48 = .ok (.iload_n 0, 1) := by decide +kernel
theorem dJ_bitCount_49 : decode cJ_bitCount 49 = .ok (.bipush 63, 2) := by decide +kernel
theorem dJ_bitCount_51 : decode cJ_bitCount 51 = .ok (.iand, 1) := by decide +kernel
theorem dJ_bitCount_52 : decode cJ_bitCount 52 = .ok (.ireturn, 1) := by decide +kernel
abbrev cJ_ntz : ByteArray := prog_15_method_48_code
def yJ_ntz : MethodName := ⟨"java/lang/Integer", "numberOfTrailingZeros", "(I)I"⟩
theorem dJ_ntz_0 : decode cJ_ntz 0 = .ok (.iload_n 0, 1) := by decide +kernel
theorem dJ_ntz_1 : decode cJ_ntz 1 = .ok (.iconst (-1), 1) := by decide +kernel
theorem dJ_ntz_2 : decode cJ_ntz 2 = .ok (.ixor, 1) := by decide +kernel
theorem dJ_ntz_3 : decode cJ_ntz 3 = .ok (.iload_n 0, 1) := by decide +kernel
theorem dJ_ntz_4 : decode cJ_ntz 4 = .ok (.iconst 1, 1) := by decide +kernel
theorem dJ_ntz_5 : decode cJ_ntz 5 = .ok (.isub, 1) := by decide +kernel
theorem dJ_ntz_6 : decode cJ_ntz 6 = .ok (.iand, 1) := by decide +kernel
theorem dJ_ntz_7 : decode cJ_ntz 7 = .ok (.istore_n 0, 1) := by decide +kernel
theorem dJ_ntz_8 : decode cJ_ntz 8 = .ok (.iload_n 0, 1) := by decide +kernel
theorem dJ_ntz_9 : decode cJ_ntz 9 = .ok (.ifCond .gt 8, 3) := by decide +kernel
theorem dJ_ntz_12 : decode cJ_ntz 12 = .ok (.iload_n 0, 1) := by decide +kernel
theorem dJ_ntz_13 : decode cJ_ntz 13 = .ok (.bipush 32, 2) := by decide +kernel
theorem dJ_ntz_15 : decode cJ_ntz 15 = .ok (.iand, 1) := by decide +kernel
theorem dJ_ntz_16 : decode cJ_ntz 16 = .ok (.ireturn, 1) := by decide +kernel
theorem dJ_ntz_17 : decode cJ_ntz 17 = .ok (.iconst 1, 1) := by decide +kernel
theorem dJ_ntz_18 : decode cJ_ntz 18 = .ok (.istore_n 1, 1) := by decide +kernel
theorem dJ_ntz_19 : decode cJ_ntz 19 = .ok (.iload_n 0, 1) := by decide +kernel
theorem dJ_ntz_20 : decode cJ_ntz 20 = .ok (.ldc_w 264, 3) := by decide +kernel
theorem dJ_ntz_23 : decode cJ_ntz 23 = .ok (.if_icmp .le 11, 3) := by decide +kernel
theorem dJ_ntz_26 : decode cJ_ntz 26 = .ok (.iinc 1 16, 3) := by decide +kernel
theorem dJ_ntz_29 : decode cJ_ntz 29 = .ok (.iload_n 0, 1) := by decide +kernel
theorem dJ_ntz_30 : decode cJ_ntz 30 = .ok (.bipush 16, 2) := by decide +kernel
theorem dJ_ntz_32 : decode cJ_ntz 32 = .ok (.iushr, 1) := by decide +kernel
theorem dJ_ntz_33 : decode cJ_ntz 33 = .ok (.istore_n 0, 1) := by decide +kernel
theorem dJ_ntz_34 : decode cJ_ntz 34 = .ok (.iload_n 0, 1) := by decide +kernel
theorem dJ_ntz_35 : decode cJ_ntz 35 = .ok (.sipush 256, 3) := by decide +kernel
theorem dJ_ntz_38 : decode cJ_ntz 38 = .ok (.if_icmp .le 11, 3) := by decide +kernel
theorem dJ_ntz_41 : decode cJ_ntz 41 = .ok (.iinc 1 8, 3) := by decide +kernel
theorem dJ_ntz_44 : decode cJ_ntz 44 = .ok (.iload_n 0, 1) := by decide +kernel
theorem dJ_ntz_45 : decode cJ_ntz 45 = .ok (.bipush 8, 2) := by decide +kernel
theorem dJ_ntz_47 : decode cJ_ntz 47 = .ok (.iushr, 1) := by decide +kernel
theorem dJ_ntz_48 : decode cJ_ntz 48 = .ok (.istore_n 0, 1) := by decide +kernel
theorem dJ_ntz_49 : decode cJ_ntz 49 = .ok (.iload_n 0, 1) := by decide +kernel
theorem dJ_ntz_50 : decode cJ_ntz 50 = .ok (.bipush 16, 2) := by decide +kernel
theorem dJ_ntz_52 : decode cJ_ntz 52 = .ok (.if_icmp .le 10, 3) := by decide +kernel
theorem dJ_ntz_55 : decode cJ_ntz 55 = .ok (.iinc 1 4, 3) := by decide +kernel
theorem dJ_ntz_58 : decode cJ_ntz 58 = .ok (.iload_n 0, 1) := by decide +kernel
theorem dJ_ntz_59 : decode cJ_ntz 59 = .ok (.iconst 4, 1) := by decide +kernel
theorem dJ_ntz_60 : decode cJ_ntz 60 = .ok (.iushr, 1) := by decide +kernel
theorem dJ_ntz_61 : decode cJ_ntz 61 = .ok (.istore_n 0, 1) := by decide +kernel
theorem dJ_ntz_62 : decode cJ_ntz 62 = .ok (.iload_n 0, 1) := by decide +kernel
theorem dJ_ntz_63 : decode cJ_ntz 63 = .ok (.iconst 4, 1) := by decide +kernel
theorem dJ_ntz_64 : decode cJ_ntz 64 = .ok (.if_icmp .le 10, 3) := by decide +kernel
theorem dJ_ntz_67 : decode cJ_ntz 67 = .ok (.iinc 1 2, 3) := by decide +kernel
theorem dJ_ntz_70 : decode cJ_ntz 70 = .ok (.iload_n 0, 1) := by decide +kernel
theorem dJ_ntz_71 : decode cJ_ntz 71 = .ok (.iconst 2, 1) := by decide +kernel
theorem dJ_ntz_72 : decode cJ_ntz 72 = .ok (.iushr, 1) := by decide +kernel
theorem dJ_ntz_73 : decode cJ_ntz 73 = .ok (.istore_n 0, 1) := by decide +kernel
theorem dJ_ntz_74 : decode cJ_ntz 74 = .ok (.iload_n 1, 1) := by decide +kernel
theorem dJ_ntz_75 : decode cJ_ntz 75 = .ok (.iload_n 0, 1) := by decide +kernel
theorem dJ_ntz_76 : decode cJ_ntz 76 = .ok (.iconst 1, 1) := by decide +kernel
theorem dJ_ntz_77 : decode cJ_ntz 77 = .ok (.iushr, 1) := by decide +kernel
theorem dJ_ntz_78 : decode cJ_ntz 78 = .ok (.iadd, 1) := by decide +kernel
theorem dJ_ntz_79 : decode cJ_ntz 79 = .ok (.ireturn, 1) := by decide +kernel
abbrev cJ_fill : ByteArray := prog_18_method_103_code
def yJ_fill : MethodName := ⟨"java/util/Arrays", "fill", "([II)V"⟩
theorem dJ_fill_0 : decode cJ_fill 0 = .ok (.iconst 0, 1) := by decide +kernel
theorem dJ_fill_1 : decode cJ_fill 1 = .ok (.istore_n 2, 1) := by decide +kernel
theorem dJ_fill_2 : decode cJ_fill 2 = .ok (.aload_n 0, 1) := by decide +kernel
theorem dJ_fill_3 : decode cJ_fill 3 = .ok (.arraylength, 1) := by decide +kernel
theorem dJ_fill_4 : decode cJ_fill 4 = .ok (.istore_n 3, 1) := by decide +kernel
theorem dJ_fill_5 : decode cJ_fill 5 = .ok (.iload_n 2, 1) := by decide +kernel
theorem dJ_fill_6 : decode cJ_fill 6 = .ok (.iload_n 3, 1) := by decide +kernel
theorem dJ_fill_7 : decode cJ_fill 7 = .ok (.if_icmp .ge 13, 3) := by decide +kernel
theorem dJ_fill_10 : decode cJ_fill 10 = .ok (.aload_n 0, 1) := by decide +kernel
theorem dJ_fill_11 : decode cJ_fill 11 = .ok (.iload_n 2, 1) := by decide +kernel
theorem dJ_fill_12 : decode cJ_fill 12 = .ok (.iload_n 1, 1) := by decide +kernel
theorem dJ_fill_13 : decode cJ_fill 13 = .ok (.iastore, 1) := by decide +kernel
theorem dJ_fill_14 : decode cJ_fill 14 = .ok (.iinc 2 1, 3) := by decide +kernel
theorem dJ_fill_17 : decode cJ_fill 17 = .ok (.goto (-12), 3) := by decide +kernel
theorem dJ_fill_20 : decode cJ_fill 20 = .ok (.return_, 1) := by decide +kernel
abbrev cJ_filll : ByteArray := prog_18_method_101_code
def yJ_filll : MethodName := ⟨"java/util/Arrays", "fill", "([JJ)V"⟩
theorem dJ_filll_0 : decode cJ_filll 0 = .ok (.iconst 0, 1) := by decide +kernel
theorem dJ_filll_1 : decode cJ_filll 1 = .ok (.istore_n 3, 1) := by decide +kernel
theorem dJ_filll_2 : decode cJ_filll 2 = .ok (.aload_n 0, 1) := by decide +kernel
theorem dJ_filll_3 : decode cJ_filll 3 = .ok (.arraylength, 1) := by decide +kernel
theorem dJ_filll_4 : decode cJ_filll 4 = .ok (.istore 4, 2) := by decide +kernel
theorem dJ_filll_6 : decode cJ_filll 6 = .ok (.iload_n 3, 1) := by decide +kernel
theorem dJ_filll_7 : decode cJ_filll 7 = .ok (.iload 4, 2) := by decide +kernel
theorem dJ_filll_9 : decode cJ_filll 9 = .ok (.if_icmp .ge 13, 3) := by decide +kernel
theorem dJ_filll_12 : decode cJ_filll 12 = .ok (.aload_n 0, 1) := by decide +kernel
theorem dJ_filll_13 : decode cJ_filll 13 = .ok (.iload_n 3, 1) := by decide +kernel
theorem dJ_filll_14 : decode cJ_filll 14 = .ok (.lload_n 1, 1) := by decide +kernel
theorem dJ_filll_15 : decode cJ_filll 15 = .ok (.lastore, 1) := by decide +kernel
theorem dJ_filll_16 : decode cJ_filll 16 = .ok (.iinc 3 1, 3) := by decide +kernel
theorem dJ_filll_19 : decode cJ_filll 19 = .ok (.goto (-13), 3) := by decide +kernel
theorem dJ_filll_22 : decode cJ_filll 22 = .ok (.return_, 1) := by decide +kernel
