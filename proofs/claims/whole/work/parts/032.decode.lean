theorem dX5_init_0 : decode cX5_init 0 = .ok (.aload_n 0, 1) := by decide +kernel
theorem dX5_init_1 : decode cX5_init 1 = .ok (.invokespecial 5, 3) := by decide +kernel
theorem dX5_init_4 : decode cX5_init 4 = .ok (.aload_n 0, 1) := by decide +kernel
theorem dX5_init_5 : decode cX5_init 5 = .ok (.sipush 256, 3) := by decide +kernel
theorem dX5_init_8 : decode cX5_init 8 = .ok (.newarray .long, 2) := by decide +kernel
theorem dX5_init_10 : decode cX5_init 10 = .ok (.putfield 11, 3) := by decide +kernel
theorem dX5_init_13 : decode cX5_init 13 = .ok (.aload_n 0, 1) := by decide +kernel
theorem dX5_init_14 : decode cX5_init 14 = .ok (.bipush 8, 2) := by decide +kernel
theorem dX5_init_16 : decode cX5_init 16 = .ok (.newarray .long, 2) := by decide +kernel
theorem dX5_init_18 : decode cX5_init 18 = .ok (.putfield 15, 3) := by decide +kernel
theorem dX5_init_21 : decode cX5_init 21 = .ok (.return_, 1) := by decide +kernel
theorem dX5_layAll_0 : decode cX5_layAll 0 = .ok (.aload_n 0, 1) := by decide +kernel
theorem dX5_layAll_1 : decode cX5_layAll 1 = .ok (.iload_n 2, 1) := by decide +kernel
theorem dX5_layAll_2 : decode cX5_layAll 2 = .ok (.aload_n 1, 1) := by decide +kernel
theorem dX5_layAll_3 : decode cX5_layAll 3 = .ok (.arraylength, 1) := by decide +kernel
theorem dX5_layAll_4 : decode cX5_layAll 4 = .ok (.bipush 8, 2) := by decide +kernel
theorem dX5_layAll_6 : decode cX5_layAll 6 = .ok (.invokestatic 18, 3) := by decide +kernel
theorem dX5_layAll_9 : decode cX5_layAll 9 = .ok (.invokestatic 18, 3) := by decide +kernel
theorem dX5_layAll_12 : decode cX5_layAll 12 = .ok (.putfield 24, 3) := by decide +kernel
theorem dX5_layAll_15 : decode cX5_layAll 15 = .ok (.iconst 1, 1) := by decide +kernel
theorem dX5_layAll_16 : decode cX5_layAll 16 = .ok (.aload_n 0, 1) := by decide +kernel
theorem dX5_layAll_17 : decode cX5_layAll 17 = .ok (.getfield 24, 3) := by decide +kernel
theorem dX5_layAll_20 : decode cX5_layAll 20 = .ok (.ishl, 1) := by decide +kernel
theorem dX5_layAll_21 : decode cX5_layAll 21 = .ok (.istore 4, 2) := by decide +kernel
theorem dX5_layAll_23 : decode cX5_layAll 23 = .ok (.aload_n 0, 1) := by decide +kernel
theorem dX5_layAll_24 : decode cX5_layAll 24 = .ok (.getfield 11, 3) := by decide +kernel
theorem dX5_layAll_27 : decode cX5_layAll 27 = .ok (.ldc2_w 28, 3) := by decide +kernel
theorem dX5_layAll_30 : decode cX5_layAll 30 = .ok (.invokestatic 30, 3) := by decide +kernel
theorem dX5_layAll_33 : decode cX5_layAll 33 = .ok (.aload_n 0, 1) := by decide +kernel
theorem dX5_layAll_34 : decode cX5_layAll 34 = .ok (.getfield 11, 3) := by decide +kernel
theorem dX5_layAll_37 : decode cX5_layAll 37 = .ok (.iconst 0, 1) := by decide +kernel
theorem dX5_layAll_38 : decode cX5_layAll 38 = .ok (.lconst 0, 1) := by decide +kernel
theorem dX5_layAll_39 : decode cX5_layAll 39 = .ok (.lastore, 1) := by decide +kernel
theorem dX5_layAll_40 : decode cX5_layAll 40 = .ok (.iconst 0, 1) := by decide +kernel
theorem dX5_layAll_41 : decode cX5_layAll 41 = .ok (.istore 5, 2) := by decide +kernel
theorem dX5_layAll_43 : decode cX5_layAll 43 = .ok (.iload 5, 2) := by decide +kernel
theorem dX5_layAll_45 : decode cX5_layAll 45 = .ok (.aload_n 0, 1) := by decide +kernel
theorem dX5_layAll_46 : decode cX5_layAll 46 = .ok (.getfield 24, 3) := by decide +kernel
theorem dX5_layAll_49 : decode cX5_layAll 49 = .ok (.if_icmp .ge 23, 3) := by decide +kernel
theorem dX5_layAll_52 : decode cX5_layAll 52 = .ok (.aload_n 0, 1) := by decide +kernel
theorem dX5_layAll_53 : decode cX5_layAll 53 = .ok (.getfield 11, 3) := by decide +kernel
theorem dX5_layAll_56 : decode cX5_layAll 56 = .ok (.iconst 0, 1) := by decide +kernel
theorem dX5_layAll_57 : decode cX5_layAll 57 = .ok (.dup2, 1) := by decide +kernel
theorem dX5_layAll_58 : decode cX5_layAll 58 = .ok (.laload, 1) := by decide +kernel
theorem dX5_layAll_59 : decode cX5_layAll 59 = .ok (.iload 5, 2) := by decide +kernel
theorem dX5_layAll_61 : decode cX5_layAll 61 = .ok (.invokestatic 36, 3) := by decide +kernel
theorem dX5_layAll_64 : decode cX5_layAll 64 = .ok (.ladd, 1) := by decide +kernel
theorem dX5_layAll_65 : decode cX5_layAll 65 = .ok (.lastore, 1) := by decide +kernel
theorem dX5_layAll_66 : decode cX5_layAll 66 = .ok (.iinc 5 1, 3) := by decide +kernel
theorem dX5_layAll_69 : decode cX5_layAll 69 = .ok (.goto (-26), 3) := by decide +kernel
theorem dX5_layAll_72 : decode cX5_layAll 72 = .ok (.iconst 0, 1) := by decide +kernel
theorem dX5_layAll_73 : decode cX5_layAll 73 = .ok (.istore 5, 2) := by decide +kernel
theorem dX5_layAll_75 : decode cX5_layAll 75 = .ok (.iload 5, 2) := by decide +kernel
theorem dX5_layAll_77 : decode cX5_layAll 77 = .ok (.aload_n 3, 1) := by decide +kernel
theorem dX5_layAll_78 : decode cX5_layAll 78 = .ok (.getfield 40, 3) := by decide +kernel
theorem dX5_layAll_81 : decode cX5_layAll 81 = .ok (.if_icmp .ge 44, 3) := by decide +kernel
theorem dX5_layAll_84 : decode cX5_layAll 84 = .ok (.aload_n 0, 1) := by decide +kernel
theorem dX5_layAll_85 : decode cX5_layAll 85 = .ok (.aload_n 1, 1) := by decide +kernel
theorem dX5_layAll_86 : decode cX5_layAll 86 = .ok (.aload_n 3, 1) := by decide +kernel
theorem dX5_layAll_87 : decode cX5_layAll 87 = .ok (.getfield 43, 3) := by decide +kernel
theorem dX5_layAll_90 : decode cX5_layAll 90 = .ok (.iload 5, 2) := by decide +kernel
theorem dX5_layAll_92 : decode cX5_layAll 92 = .ok (.aaload, 1) := by decide +kernel
theorem dX5_layAll_93 : decode cX5_layAll 93 = .ok (.invokevirtual 47, 3) := by decide +kernel
theorem dX5_layAll_96 : decode cX5_layAll 96 = .ok (.istore 6, 2) := by decide +kernel
theorem dX5_layAll_98 : decode cX5_layAll 98 = .ok (.iload 6, 2) := by decide +kernel
theorem dX5_layAll_100 : decode cX5_layAll 100 = .ok (.ifCond .eq 19, 3) := by decide +kernel
theorem dX5_layAll_103 : decode cX5_layAll 103 = .ok (.aload_n 0, 1) := by decide +kernel
theorem dX5_layAll_104 : decode cX5_layAll 104 = .ok (.aload_n 1, 1) := by decide +kernel
theorem dX5_layAll_105 : decode cX5_layAll 105 = .ok (.aload_n 3, 1) := by decide +kernel
theorem dX5_layAll_106 : decode cX5_layAll 106 = .ok (.getfield 43, 3) := by decide +kernel
theorem dX5_layAll_109 : decode cX5_layAll 109 = .ok (.iload 5, 2) := by decide +kernel
theorem dX5_layAll_111 : decode cX5_layAll 111 = .ok (.aaload, 1) := by decide +kernel
theorem dX5_layAll_112 : decode cX5_layAll 112 = .ok (.iload 5, 2) := by decide +kernel
theorem dX5_layAll_114 : decode cX5_layAll 114 = .ok (.iload 6, 2) := by decide +kernel
theorem dX5_layAll_116 : decode cX5_layAll 116 = .ok (.invokevirtual 51, 3) := by decide +kernel
theorem dX5_layAll_119 : decode cX5_layAll 119 = .ok (.iinc 5 1, 3) := by decide +kernel
theorem dX5_layAll_122 : decode cX5_layAll 122 = .ok (.goto (-47), 3) := by decide +kernel
theorem dX5_layAll_125 : decode cX5_layAll 125 = .ok (.aload_n 0, 1) := by decide +kernel
theorem dX5_layAll_126 : decode cX5_layAll 126 = .ok (.aload_n 0, 1) := by decide +kernel
theorem dX5_layAll_127 : decode cX5_layAll 127 = .ok (.getfield 11, 3) := by decide +kernel
theorem dX5_layAll_130 : decode cX5_layAll 130 = .ok (.iconst 0, 1) := by decide +kernel
theorem dX5_layAll_131 : decode cX5_layAll 131 = .ok (.laload, 1) := by decide +kernel
theorem dX5_layAll_132 : decode cX5_layAll 132 = .ok (.putfield 55, 3) := by decide +kernel
theorem dX5_layAll_135 : decode cX5_layAll 135 = .ok (.iconst 1, 1) := by decide +kernel
theorem dX5_layAll_136 : decode cX5_layAll 136 = .ok (.istore 5, 2) := by decide +kernel
theorem dX5_layAll_138 : decode cX5_layAll 138 = .ok (.iload 5, 2) := by decide +kernel
theorem dX5_layAll_140 : decode cX5_layAll 140 = .ok (.iload 4, 2) := by decide +kernel
theorem dX5_layAll_142 : decode cX5_layAll 142 = .ok (.if_icmp .ge 27, 3) := by decide +kernel
theorem dX5_layAll_145 : decode cX5_layAll 145 = .ok (.aload_n 0, 1) := by decide +kernel
theorem dX5_layAll_146 : decode cX5_layAll 146 = .ok (.aload_n 0, 1) := by decide +kernel
theorem dX5_layAll_147 : decode cX5_layAll 147 = .ok (.getfield 55, 3) := by decide +kernel
theorem dX5_layAll_150 : decode cX5_layAll 150 = .ok (.aload_n 0, 1) := by decide +kernel
theorem dX5_layAll_151 : decode cX5_layAll 151 = .ok (.getfield 11, 3) := by decide +kernel
theorem dX5_layAll_154 : decode cX5_layAll 154 = .ok (.iload 5, 2) := by decide +kernel
theorem dX5_layAll_156 : decode cX5_layAll 156 = .ok (.laload, 1) := by decide +kernel
theorem dX5_layAll_157 : decode cX5_layAll 157 = .ok (.invokestatic 59, 3) := by decide +kernel
theorem dX5_layAll_160 : decode cX5_layAll 160 = .ok (.putfield 55, 3) := by decide +kernel
theorem dX5_layAll_163 : decode cX5_layAll 163 = .ok (.iinc 5 1, 3) := by decide +kernel
theorem dX5_layAll_166 : decode cX5_layAll 166 = .ok (.goto (-28), 3) := by decide +kernel
theorem dX5_layAll_169 : decode cX5_layAll 169 = .ok (.return_, 1) := by decide +kernel
theorem dX5_takersOf_0 : decode cX5_takersOf 0 = .ok (.iconst 0, 1) := by decide +kernel
theorem dX5_takersOf_1 : decode cX5_takersOf 1 = .ok (.istore_n 3, 1) := by decide +kernel
theorem dX5_takersOf_2 : decode cX5_takersOf 2 = .ok (.iconst 0, 1) := by decide +kernel
theorem dX5_takersOf_3 : decode cX5_takersOf 3 = .ok (.istore 4, 2) := by decide +kernel
theorem dX5_takersOf_5 : decode cX5_takersOf 5 = .ok (.iload 4, 2) := by decide +kernel
theorem dX5_takersOf_7 : decode cX5_takersOf 7 = .ok (.aload_n 0, 1) := by decide +kernel
theorem dX5_takersOf_8 : decode cX5_takersOf 8 = .ok (.getfield 24, 3) := by decide +kernel
theorem dX5_takersOf_11 : decode cX5_takersOf 11 = .ok (.if_icmp .ge 27, 3) := by decide +kernel
theorem dX5_takersOf_14 : decode cX5_takersOf 14 = .ok (.aload_n 1, 1) := by decide +kernel
theorem dX5_takersOf_15 : decode cX5_takersOf 15 = .ok (.iload 4, 2) := by decide +kernel
theorem dX5_takersOf_17 : decode cX5_takersOf 17 = .ok (.aaload, 1) := by decide +kernel
theorem dX5_takersOf_18 : decode cX5_takersOf 18 = .ok (.aload_n 2, 1) := by decide +kernel
theorem dX5_takersOf_19 : decode cX5_takersOf 19 = .ok (.invokevirtual 62, 3) := by decide +kernel
theorem dX5_takersOf_22 : decode cX5_takersOf 22 = .ok (.ifCond .eq 10, 3) := by decide +kernel
theorem dX5_takersOf_25 : decode cX5_takersOf 25 = .ok (.iload_n 3, 1) := by decide +kernel
theorem dX5_takersOf_26 : decode cX5_takersOf 26 = .ok (.iconst 1, 1) := by decide +kernel
theorem dX5_takersOf_27 : decode cX5_takersOf 27 = .ok (.iload 4, 2) := by decide +kernel
theorem dX5_takersOf_29 : decode cX5_takersOf 29 = .ok (.ishl, 1) := by decide +kernel
theorem dX5_takersOf_30 : decode cX5_takersOf 30 = .ok (.ior, 1) := by decide +kernel
theorem dX5_takersOf_31 : decode cX5_takersOf 31 = .ok (.istore_n 3, 1) := by decide +kernel
theorem dX5_takersOf_32 : decode cX5_takersOf 32 = .ok (.iinc 4 1, 3) := by decide +kernel
theorem dX5_takersOf_35 : decode cX5_takersOf 35 = .ok (.goto (-30), 3) := by decide +kernel
theorem dX5_takersOf_38 : decode cX5_takersOf 38 = .ok (.iload_n 3, 1) := by decide +kernel
theorem dX5_takersOf_39 : decode cX5_takersOf 39 = .ok (.ireturn, 1) := by decide +kernel
theorem dX5_layBell_0 : decode cX5_layBell 0 = .ok (.iconst 0, 1) := by decide +kernel
theorem dX5_layBell_1 : decode cX5_layBell 1 = .ok (.istore 5, 2) := by decide +kernel
theorem dX5_layBell_3 : decode cX5_layBell 3 = .ok (.iload 5, 2) := by decide +kernel
theorem dX5_layBell_5 : decode cX5_layBell 5 = .ok (.aload_n 0, 1) := by decide +kernel
theorem dX5_layBell_6 : decode cX5_layBell 6 = .ok (.getfield 24, 3) := by decide +kernel
theorem dX5_layBell_9 : decode cX5_layBell 9 = .ok (.if_icmp .ge 45, 3) := by decide +kernel
theorem dX5_layBell_12 : decode cX5_layBell 12 = .ok (.aload_n 0, 1) := by decide +kernel
theorem dX5_layBell_13 : decode cX5_layBell 13 = .ok (.getfield 15, 3) := by decide +kernel
theorem dX5_layBell_16 : decode cX5_layBell 16 = .ok (.iload 5, 2) := by decide +kernel
theorem dX5_layBell_18 : decode cX5_layBell 18 = .ok (.aload_n 1, 1) := by decide +kernel
theorem dX5_layBell_19 : decode cX5_layBell 19 = .ok (.iload 5, 2) := by decide +kernel
theorem dX5_layBell_21 : decode cX5_layBell 21 = .ok (.aaload, 1) := by decide +kernel
theorem dX5_layBell_22 : decode cX5_layBell 22 = .ok (.aload_n 2, 1) := by decide +kernel
theorem dX5_layBell_23 : decode cX5_layBell 23 = .ok (.invokevirtual 68, 3) := by decide +kernel
theorem dX5_layBell_26 : decode cX5_layBell 26 = .ok (.i2l, 1) := by decide +kernel
theorem dX5_layBell_27 : decode cX5_layBell 27 = .ok (.ldc2_w 72, 3) := by decide +kernel
theorem dX5_layBell_30 : decode cX5_layBell 30 = .ok (.lmul, 1) := by decide +kernel
theorem dX5_layBell_31 : decode cX5_layBell 31 = .ok (.iload_n 3, 1) := by decide +kernel
theorem dX5_layBell_32 : decode cX5_layBell 32 = .ok (.i2l, 1) := by decide +kernel
theorem dX5_layBell_33 : decode cX5_layBell 33 = .ok (.getstatic 74, 3) := by decide +kernel
theorem dX5_layBell_36 : decode cX5_layBell 36 = .ok (.iload 5, 2) := by decide +kernel
theorem dX5_layBell_38 : decode cX5_layBell 38 = .ok (.laload, 1) := by decide +kernel
theorem dX5_layBell_39 : decode cX5_layBell 39 = .ok (.lmul, 1) := by decide +kernel
theorem dX5_layBell_40 : decode cX5_layBell 40 = .ok (.ladd, 1) := by decide +kernel
theorem dX5_layBell_41 : decode cX5_layBell 41 = .ok (.iload 5, 2) := by decide +kernel
theorem dX5_layBell_43 : decode cX5_layBell 43 = .ok (.invokestatic 36, 3) := by decide +kernel
theorem dX5_layBell_46 : decode cX5_layBell 46 = .ok (.lsub, 1) := by decide +kernel
theorem dX5_layBell_47 : decode cX5_layBell 47 = .ok (.lastore, 1) := by decide +kernel
theorem dX5_layBell_48 : decode cX5_layBell 48 = .ok (.iinc 5 1, 3) := by decide +kernel
theorem dX5_layBell_51 : decode cX5_layBell 51 = .ok (.goto (-48), 3) := by decide +kernel
theorem dX5_layBell_54 : decode cX5_layBell 54 = .ok (.iconst 1, 1) := by decide +kernel
theorem dX5_layBell_55 : decode cX5_layBell 55 = .ok (.aload_n 0, 1) := by decide +kernel
theorem dX5_layBell_56 : decode cX5_layBell 56 = .ok (.getfield 24, 3) := by decide +kernel
theorem dX5_layBell_59 : decode cX5_layBell 59 = .ok (.ishl, 1) := by decide +kernel
theorem dX5_layBell_60 : decode cX5_layBell 60 = .ok (.iconst 1, 1) := by decide +kernel
theorem dX5_layBell_61 : decode cX5_layBell 61 = .ok (.isub, 1) := by decide +kernel
theorem dX5_layBell_62 : decode cX5_layBell 62 = .ok (.istore 5, 2) := by decide +kernel
theorem dX5_layBell_64 : decode cX5_layBell 64 = .ok (.iload 5, 2) := by decide +kernel
theorem dX5_layBell_66 : decode cX5_layBell 66 = .ok (.ifCond .lt 102, 3) := by decide +kernel
theorem dX5_layBell_69 : decode cX5_layBell 69 = .ok (.aload_n 0, 1) := by decide +kernel
theorem dX5_layBell_70 : decode cX5_layBell 70 = .ok (.getfield 11, 3) := by decide +kernel
theorem dX5_layBell_73 : decode cX5_layBell 73 = .ok (.iload 5, 2) := by decide +kernel
theorem dX5_layBell_75 : decode cX5_layBell 75 = .ok (.laload, 1) := by decide +kernel
theorem dX5_layBell_76 : decode cX5_layBell 76 = .ok (.ldc2_w 28, 3) := by decide +kernel
theorem dX5_layBell_79 : decode cX5_layBell 79 = .ok (.lcmp, 1) := by decide +kernel
theorem dX5_layBell_80 : decode cX5_layBell 80 = .ok (.ifCond .eq 82, 3) := by decide +kernel
theorem dX5_layBell_83 : decode cX5_layBell 83 = .ok (.iload 4, 2) := by decide +kernel
theorem dX5_layBell_85 : decode cX5_layBell 85 = .ok (.iload 5, 2) := by decide +kernel
theorem dX5_layBell_87 : decode cX5_layBell 87 = .ok (.iconst (-1), 1) := by decide +kernel
theorem dX5_layBell_88 : decode cX5_layBell 88 = .ok (.ixor, 1) := by decide +kernel
theorem dX5_layBell_89 : decode cX5_layBell 89 = .ok (.iand, 1) := by decide +kernel
theorem dX5_layBell_90 : decode cX5_layBell 90 = .ok (.istore 6, 2) := by decide +kernel
theorem dX5_layBell_92 : decode cX5_layBell 92 = .ok (.iconst 0, 1) := by decide +kernel
theorem dX5_layBell_93 : decode cX5_layBell 93 = .ok (.istore 7, 2) := by decide +kernel
theorem dX5_layBell_95 : decode cX5_layBell 95 = .ok (.iload 7, 2) := by decide +kernel
theorem dX5_layBell_97 : decode cX5_layBell 97 = .ok (.aload_n 0, 1) := by decide +kernel
theorem dX5_layBell_98 : decode cX5_layBell 98 = .ok (.getfield 24, 3) := by decide +kernel
theorem dX5_layBell_101 : decode cX5_layBell 101 = .ok (.if_icmp .ge 61, 3) := by decide +kernel
theorem dX5_layBell_104 : decode cX5_layBell 104 = .ok (.iload 6, 2) := by decide +kernel
theorem dX5_layBell_106 : decode cX5_layBell 106 = .ok (.iload 7, 2) := by decide +kernel
theorem dX5_layBell_108 : decode cX5_layBell 108 = .ok (.ishr, 1) := by decide +kernel
theorem dX5_layBell_109 : decode cX5_layBell 109 = .ok (.iconst 1, 1) := by decide +kernel
theorem dX5_layBell_110 : decode cX5_layBell 110 = .ok (.iand, 1) := by decide +kernel
theorem dX5_layBell_111 : decode cX5_layBell 111 = .ok (.iconst 1, 1) := by decide +kernel
theorem dX5_layBell_112 : decode cX5_layBell 112 = .ok (.if_icmp .ne 44, 3) := by decide +kernel
theorem dX5_layBell_115 : decode cX5_layBell 115 = .ok (.iload 5, 2) := by decide +kernel
theorem dX5_layBell_117 : decode cX5_layBell 117 = .ok (.iconst 1, 1) := by decide +kernel
theorem dX5_layBell_118 : decode cX5_layBell 118 = .ok (.iload 7, 2) := by decide +kernel
theorem dX5_layBell_120 : decode cX5_layBell 120 = .ok (.ishl, 1) := by decide +kernel
theorem dX5_layBell_121 : decode cX5_layBell 121 = .ok (.ior, 1) := by decide +kernel
theorem dX5_layBell_122 : decode cX5_layBell 122 = .ok (.istore 8, 2) := by decide +kernel
theorem dX5_layBell_124 : decode cX5_layBell 124 = .ok (.aload_n 0, 1) := by decide +kernel
theorem dX5_layBell_125 : decode cX5_layBell 125 = .ok (.getfield 11, 3) := by decide +kernel
theorem dX5_layBell_128 : decode cX5_layBell 128 = .ok (.iload 8, 2) := by decide +kernel
theorem dX5_layBell_130 : decode cX5_layBell 130 = .ok (.aload_n 0, 1) := by decide +kernel
theorem dX5_layBell_131 : decode cX5_layBell 131 = .ok (.getfield 11, 3) := by decide +kernel
theorem dX5_layBell_134 : decode cX5_layBell 134 = .ok (.iload 8, 2) := by decide +kernel
theorem dX5_layBell_136 : decode cX5_layBell 136 = .ok (.laload, 1) := by decide +kernel
theorem dX5_layBell_137 : decode cX5_layBell 137 = .ok (.aload_n 0, 1) := by decide +kernel
theorem dX5_layBell_138 : decode cX5_layBell 138 = .ok (.getfield 11, 3) := by decide +kernel
theorem dX5_layBell_141 : decode cX5_layBell 141 = .ok (.iload 5, 2) := by decide +kernel
theorem dX5_layBell_143 : decode cX5_layBell 143 = .ok (.laload, 1) := by decide +kernel
theorem dX5_layBell_144 : decode cX5_layBell 144 = .ok (.aload_n 0, 1) := by decide +kernel
theorem dX5_layBell_145 : decode cX5_layBell 145 = .ok (.getfield 15, 3) := by decide +kernel
theorem dX5_layBell_148 : decode cX5_layBell 148 = .ok (.iload 7, 2) := by decide +kernel
theorem dX5_layBell_150 : decode cX5_layBell 150 = .ok (.laload, 1) := by decide +kernel
theorem dX5_layBell_151 : decode cX5_layBell 151 = .ok (.ladd, 1) := by decide +kernel
theorem dX5_layBell_152 : decode cX5_layBell 152 = .ok (.invokestatic 59, 3) := by decide +kernel
theorem dX5_layBell_155 : decode cX5_layBell 155 = .ok (.lastore, 1) := by decide +kernel
theorem dX5_layBell_156 : decode cX5_layBell 156 = .ok (.iinc 7 1, 3) := by decide +kernel
theorem dX5_layBell_159 : decode cX5_layBell 159 = .ok (.goto (-64), 3) := by decide +kernel
theorem dX5_layBell_162 : decode cX5_layBell 162 = .ok (.iinc 5 (-1), 3) := by decide +kernel
theorem dX5_layBell_165 : decode cX5_layBell 165 = .ok (.goto (-101), 3) := by decide +kernel
theorem dX5_layBell_168 : decode cX5_layBell 168 = .ok (.return_, 1) := by decide +kernel
theorem dX5_notLaid_0 : decode cX5_notLaid 0 = .ok (.ldc2_w 77, 3) := by decide +kernel
theorem dX5_notLaid_3 : decode cX5_notLaid 3 = .ok (.ldc2_w 79, 3) := by decide +kernel
theorem dX5_notLaid_6 : decode cX5_notLaid 6 = .ok (.getstatic 74, 3) := by decide +kernel
theorem dX5_notLaid_9 : decode cX5_notLaid 9 = .ok (.iload_n 0, 1) := by decide +kernel
theorem dX5_notLaid_10 : decode cX5_notLaid 10 = .ok (.laload, 1) := by decide +kernel
theorem dX5_notLaid_11 : decode cX5_notLaid 11 = .ok (.lmul, 1) := by decide +kernel
theorem dX5_notLaid_12 : decode cX5_notLaid 12 = .ok (.ladd, 1) := by decide +kernel
theorem dX5_notLaid_13 : decode cX5_notLaid 13 = .ok (.lreturn, 1) := by decide +kernel
theorem dX5_laidCount_0 : decode cX5_laidCount 0 = .ok (.aload_n 0, 1) := by decide +kernel
theorem dX5_laidCount_1 : decode cX5_laidCount 1 = .ok (.getfield 24, 3) := by decide +kernel
theorem dX5_laidCount_4 : decode cX5_laidCount 4 = .ok (.aload_n 0, 1) := by decide +kernel
theorem dX5_laidCount_5 : decode cX5_laidCount 5 = .ok (.getfield 55, 3) := by decide +kernel
theorem dX5_laidCount_8 : decode cX5_laidCount 8 = .ok (.ldc2_w 77, 3) := by decide +kernel
theorem dX5_laidCount_11 : decode cX5_laidCount 11 = .ok (.ldiv, 1) := by decide +kernel
theorem dX5_laidCount_12 : decode cX5_laidCount 12 = .ok (.l2i, 1) := by decide +kernel
theorem dX5_laidCount_13 : decode cX5_laidCount 13 = .ok (.isub, 1) := by decide +kernel
theorem dX5_laidCount_14 : decode cX5_laidCount 14 = .ok (.ireturn, 1) := by decide +kernel
theorem dX5_differences_0 : decode cX5_differences 0 = .ok (.aload_n 0, 1) := by decide +kernel
theorem dX5_differences_1 : decode cX5_differences 1 = .ok (.getfield 55, 3) := by decide +kernel
theorem dX5_differences_4 : decode cX5_differences 4 = .ok (.ldc2_w 77, 3) := by decide +kernel
theorem dX5_differences_7 : decode cX5_differences 7 = .ok (.lrem, 1) := by decide +kernel
theorem dX5_differences_8 : decode cX5_differences 8 = .ok (.ldc2_w 72, 3) := by decide +kernel
theorem dX5_differences_11 : decode cX5_differences 11 = .ok (.ldiv, 1) := by decide +kernel
theorem dX5_differences_12 : decode cX5_differences 12 = .ok (.l2i, 1) := by decide +kernel
theorem dX5_differences_13 : decode cX5_differences 13 = .ok (.ireturn, 1) := by decide +kernel
theorem dX5_bellOf_0 : decode cX5_bellOf 0 = .ok (.aload_n 0, 1) := by decide +kernel
theorem dX5_bellOf_1 : decode cX5_bellOf 1 = .ok (.getfield 55, 3) := by decide +kernel
theorem dX5_bellOf_4 : decode cX5_bellOf 4 = .ok (.lstore_n 2, 1) := by decide +kernel
theorem dX5_bellOf_5 : decode cX5_bellOf 5 = .ok (.bipush 7, 2) := by decide +kernel
theorem dX5_bellOf_7 : decode cX5_bellOf 7 = .ok (.istore 4, 2) := by decide +kernel
theorem dX5_bellOf_9 : decode cX5_bellOf 9 = .ok (.iload 4, 2) := by decide +kernel
theorem dX5_bellOf_11 : decode cX5_bellOf 11 = .ok (.iload_n 1, 1) := by decide +kernel
theorem dX5_bellOf_12 : decode cX5_bellOf 12 = .ok (.if_icmp .le 15, 3) := by decide +kernel
theorem dX5_bellOf_15 : decode cX5_bellOf 15 = .ok (.lload_n 2, 1) := by decide +kernel
theorem dX5_bellOf_16 : decode cX5_bellOf 16 = .ok (.ldc2_w 81, 3) := by decide +kernel
theorem dX5_bellOf_19 : decode cX5_bellOf 19 = .ok (.ldiv, 1) := by decide +kernel
theorem dX5_bellOf_20 : decode cX5_bellOf 20 = .ok (.lstore_n 2, 1) := by decide +kernel
theorem dX5_bellOf_21 : decode cX5_bellOf 21 = .ok (.iinc 4 (-1), 3) := by decide +kernel
theorem dX5_bellOf_24 : decode cX5_bellOf 24 = .ok (.goto (-15), 3) := by decide +kernel
theorem dX5_bellOf_27 : decode cX5_bellOf 27 = .ok (.lload_n 2, 1) := by decide +kernel
theorem dX5_bellOf_28 : decode cX5_bellOf 28 = .ok (.ldc2_w 81, 3) := by decide +kernel
theorem dX5_bellOf_31 : decode cX5_bellOf 31 = .ok (.lrem, 1) := by decide +kernel
theorem dX5_bellOf_32 : decode cX5_bellOf 32 = .ok (.l2i, 1) := by decide +kernel
theorem dX5_bellOf_33 : decode cX5_bellOf 33 = .ok (.istore 4, 2) := by decide +kernel
theorem dX5_bellOf_35 : decode cX5_bellOf 35 = .ok (.iload 4, 2) := by decide +kernel
theorem dX5_bellOf_37 : decode cX5_bellOf 37 = .ok (.bipush 20, 2) := by decide +kernel
theorem dX5_bellOf_39 : decode cX5_bellOf 39 = .ok (.if_icmp .ne 7, 3) := by decide +kernel
theorem dX5_bellOf_42 : decode cX5_bellOf 42 = .ok (.iconst (-1), 1) := by decide +kernel
theorem dX5_bellOf_43 : decode cX5_bellOf 43 = .ok (.goto 5, 3) := by decide +kernel
theorem dX5_bellOf_46 : decode cX5_bellOf 46 = .ok (.iload 4, 2) := by decide +kernel
theorem dX5_bellOf_48 : decode cX5_bellOf 48 = .ok (.ireturn, 1) := by decide +kernel
theorem dX6_init_0 : decode cX6_init 0 = .ok (.aload_n 0, 1) := by decide +kernel
theorem dX6_init_1 : decode cX6_init 1 = .ok (.invokespecial 3, 3) := by decide +kernel
theorem dX6_init_4 : decode cX6_init 4 = .ok (.aload_n 0, 1) := by decide +kernel
theorem dX6_init_5 : decode cX6_init 5 = .ok (.bipush 20, 2) := by decide +kernel
theorem dX6_init_7 : decode cX6_init 7 = .ok (.newarray .int, 2) := by decide +kernel
theorem dX6_init_9 : decode cX6_init 9 = .ok (.putfield 9, 3) := by decide +kernel
theorem dX6_init_12 : decode cX6_init 12 = .ok (.return_, 1) := by decide +kernel
theorem dX6_plan_0 : decode cX6_plan 0 = .ok (.aload_n 0, 1) := by decide +kernel
theorem dX6_plan_1 : decode cX6_plan 1 = .ok (.getfield 9, 3) := by decide +kernel
theorem dX6_plan_4 : decode cX6_plan 4 = .ok (.iconst (-1), 1) := by decide +kernel
theorem dX6_plan_5 : decode cX6_plan 5 = .ok (.invokestatic 15, 3) := by decide +kernel
theorem dX6_plan_8 : decode cX6_plan 8 = .ok (.aload_n 0, 1) := by decide +kernel
theorem dX6_plan_9 : decode cX6_plan 9 = .ok (.iconst 0, 1) := by decide +kernel
theorem dX6_plan_10 : decode cX6_plan 10 = .ok (.putfield 21, 3) := by decide +kernel
theorem dX6_plan_13 : decode cX6_plan 13 = .ok (.aload_n 0, 1) := by decide +kernel
theorem dX6_plan_14 : decode cX6_plan 14 = .ok (.lconst 0, 1) := by decide +kernel
theorem dX6_plan_15 : decode cX6_plan 15 = .ok (.putfield 25, 3) := by decide +kernel
theorem dX6_plan_18 : decode cX6_plan 18 = .ok (.aload_n 0, 1) := by decide +kernel
theorem dX6_plan_19 : decode cX6_plan 19 = .ok (.iconst (-1), 1) := by decide +kernel
theorem dX6_plan_20 : decode cX6_plan 20 = .ok (.putfield 29, 3) := by decide +kernel
theorem dX6_plan_23 : decode cX6_plan 23 = .ok (.aload_n 0, 1) := by decide +kernel
theorem dX6_plan_24 : decode cX6_plan 24 = .ok (.iconst 0, 1) := by decide +kernel
theorem dX6_plan_25 : decode cX6_plan 25 = .ok (.putfield 32, 3) := by decide +kernel
theorem dX6_plan_28 : decode cX6_plan 28 = .ok (.iconst 0, 1) := by decide +kernel
theorem dX6_plan_29 : decode cX6_plan 29 = .ok (.istore 4, 2) := by decide +kernel
theorem dX6_plan_31 : decode cX6_plan 31 = .ok (.iload 4, 2) := by decide +kernel
theorem dX6_plan_33 : decode cX6_plan 33 = .ok (.aload_n 3, 1) := by decide +kernel
theorem dX6_plan_34 : decode cX6_plan 34 = .ok (.getfield 35, 3) := by decide +kernel
theorem dX6_plan_37 : decode cX6_plan 37 = .ok (.if_icmp .ge 28, 3) := by decide +kernel
theorem dX6_plan_40 : decode cX6_plan 40 = .ok (.aload_n 0, 1) := by decide +kernel
theorem dX6_plan_41 : decode cX6_plan 41 = .ok (.aload_n 1, 1) := by decide +kernel
theorem dX6_plan_42 : decode cX6_plan 42 = .ok (.aload_n 2, 1) := by decide +kernel
theorem dX6_plan_43 : decode cX6_plan 43 = .ok (.iload 4, 2) := by decide +kernel
theorem dX6_plan_45 : decode cX6_plan 45 = .ok (.iconst 0, 1) := by decide +kernel
theorem dX6_plan_46 : decode cX6_plan 46 = .ok (.aload_n 3, 1) := by decide +kernel
theorem dX6_plan_47 : decode cX6_plan 47 = .ok (.getfield 40, 3) := by decide +kernel
theorem dX6_plan_50 : decode cX6_plan 50 = .ok (.iload 4, 2) := by decide +kernel
theorem dX6_plan_52 : decode cX6_plan 52 = .ok (.iaload, 1) := by decide +kernel
theorem dX6_plan_53 : decode cX6_plan 53 = .ok (.invokestatic 43, 3) := by decide +kernel
theorem dX6_plan_56 : decode cX6_plan 56 = .ok (.invokevirtual 49, 3) := by decide +kernel
theorem dX6_plan_59 : decode cX6_plan 59 = .ok (.iinc 4 1, 3) := by decide +kernel
theorem dX6_plan_62 : decode cX6_plan 62 = .ok (.goto (-31), 3) := by decide +kernel
theorem dX6_plan_65 : decode cX6_plan 65 = .ok (.return_, 1) := by decide +kernel
theorem dX6_meet_0 : decode cX6_meet 0 = .ok (.iconst 0, 1) := by decide +kernel
theorem dX6_meet_1 : decode cX6_meet 1 = .ok (.istore 5, 2) := by decide +kernel
theorem dX6_meet_3 : decode cX6_meet 3 = .ok (.iload 5, 2) := by decide +kernel
theorem dX6_meet_5 : decode cX6_meet 5 = .ok (.bipush 20, 2) := by decide +kernel
theorem dX6_meet_7 : decode cX6_meet 7 = .ok (.if_icmp .gt 113, 3) := by decide +kernel
theorem dX6_meet_10 : decode cX6_meet 10 = .ok (.aload_n 0, 1) := by decide +kernel
theorem dX6_meet_11 : decode cX6_meet 11 = .ok (.getfield 21, 3) := by decide +kernel
theorem dX6_meet_14 : decode cX6_meet 14 = .ok (.iload 4, 2) := by decide +kernel
theorem dX6_meet_16 : decode cX6_meet 16 = .ok (.if_icmp .ge 104, 3) := by decide +kernel
theorem dX6_meet_19 : decode cX6_meet 19 = .ok (.aload_n 0, 1) := by decide +kernel
theorem dX6_meet_20 : decode cX6_meet 20 = .ok (.aload_n 1, 1) := by decide +kernel
theorem dX6_meet_21 : decode cX6_meet 21 = .ok (.aload_n 2, 1) := by decide +kernel
theorem dX6_meet_22 : decode cX6_meet 22 = .ok (.iload_n 3, 1) := by decide +kernel
theorem dX6_meet_23 : decode cX6_meet 23 = .ok (.invokevirtual 53, 3) := by decide +kernel
theorem dX6_meet_26 : decode cX6_meet 26 = .ok (.istore 6, 2) := by decide +kernel
theorem dX6_meet_28 : decode cX6_meet 28 = .ok (.iload 6, 2) := by decide +kernel
theorem dX6_meet_30 : decode cX6_meet 30 = .ok (.iconst (-1), 1) := by decide +kernel
theorem dX6_meet_31 : decode cX6_meet 31 = .ok (.if_icmp .ne 46, 3) := by decide +kernel
theorem dX6_meet_34 : decode cX6_meet 34 = .ok (.aload_n 0, 1) := by decide +kernel
theorem dX6_meet_35 : decode cX6_meet 35 = .ok (.dup, 1) := by decide +kernel
theorem dX6_meet_36 : decode cX6_meet 36 = .ok (.getfield 25, 3) := by decide +kernel
theorem dX6_meet_39 : decode cX6_meet 39 = .ok (.iload 4, 2) := by decide +kernel
theorem dX6_meet_41 : decode cX6_meet 41 = .ok (.aload_n 0, 1) := by decide +kernel
theorem dX6_meet_42 : decode cX6_meet 42 = .ok (.getfield 21, 3) := by decide +kernel
theorem dX6_meet_45 : decode cX6_meet 45 = .ok (.isub, 1) := by decide +kernel
theorem dX6_meet_46 : decode cX6_meet 46 = .ok (.i2l, 1) := by decide +kernel
theorem dX6_meet_47 : decode cX6_meet 47 = .ok (.ladd, 1) := by decide +kernel
theorem dX6_meet_48 : decode cX6_meet 48 = .ok (.putfield 25, 3) := by decide +kernel
theorem dX6_meet_51 : decode cX6_meet 51 = .ok (.aload_n 0, 1) := by decide +kernel
theorem dX6_meet_52 : decode cX6_meet 52 = .ok (.aload_n 0, 1) := by decide +kernel
theorem dX6_meet_53 : decode cX6_meet 53 = .ok (.getfield 29, 3) := by decide +kernel
theorem dX6_meet_56 : decode cX6_meet 56 = .ok (.iconst (-1), 1) := by decide +kernel
theorem dX6_meet_57 : decode cX6_meet 57 = .ok (.if_icmp .ne 7, 3) := by decide +kernel
theorem dX6_meet_60 : decode cX6_meet 60 = .ok (.iload_n 3, 1) := by decide +kernel
theorem dX6_meet_61 : decode cX6_meet 61 = .ok (.goto 7, 3) := by decide +kernel
theorem dX6_meet_64 : decode cX6_meet 64 = .ok (.aload_n 0, 1) := by decide +kernel
theorem dX6_meet_65 : decode cX6_meet 65 = .ok (.getfield 29, 3) := by decide +kernel
theorem dX6_meet_68 : decode cX6_meet 68 = .ok (.putfield 29, 3) := by decide +kernel
theorem dX6_meet_71 : decode cX6_meet 71 = .ok (.aload_n 0, 1) := by decide +kernel
theorem dX6_meet_72 : decode cX6_meet 72 = .ok (.iconst 0, 1) := by decide +kernel
theorem dX6_meet_73 : decode cX6_meet 73 = .ok (.putfield 21, 3) := by decide +kernel
theorem dX6_meet_76 : decode cX6_meet 76 = .ok (.return_, 1) := by decide +kernel
theorem dX6_meet_77 : decode cX6_meet 77 = .ok (.aload_n 0, 1) := by decide +kernel
theorem dX6_meet_78 : decode cX6_meet 78 = .ok (.getfield 9, 3) := by decide +kernel
theorem dX6_meet_81 : decode cX6_meet 81 = .ok (.iload 6, 2) := by decide +kernel
theorem dX6_meet_83 : decode cX6_meet 83 = .ok (.iload_n 3, 1) := by decide +kernel
theorem dX6_meet_84 : decode cX6_meet 84 = .ok (.iastore, 1) := by decide +kernel
theorem dX6_meet_85 : decode cX6_meet 85 = .ok (.aload_n 0, 1) := by decide +kernel
theorem dX6_meet_86 : decode cX6_meet 86 = .ok (.dup, 1) := by decide +kernel
theorem dX6_meet_87 : decode cX6_meet 87 = .ok (.getfield 32, 3) := by decide +kernel
theorem dX6_meet_90 : decode cX6_meet 90 = .ok (.iconst 1, 1) := by decide +kernel
theorem dX6_meet_91 : decode cX6_meet 91 = .ok (.iadd, 1) := by decide +kernel
theorem dX6_meet_92 : decode cX6_meet 92 = .ok (.putfield 32, 3) := by decide +kernel
theorem dX6_meet_95 : decode cX6_meet 95 = .ok (.aload_n 0, 1) := by decide +kernel
theorem dX6_meet_96 : decode cX6_meet 96 = .ok (.dup, 1) := by decide +kernel
theorem dX6_meet_97 : decode cX6_meet 97 = .ok (.getfield 21, 3) := by decide +kernel
theorem dX6_meet_100 : decode cX6_meet 100 = .ok (.aload_n 1, 1) := by decide +kernel
theorem dX6_meet_101 : decode cX6_meet 101 = .ok (.getfield 57, 3) := by decide +kernel
theorem dX6_meet_104 : decode cX6_meet 104 = .ok (.iload 6, 2) := by decide +kernel
theorem dX6_meet_106 : decode cX6_meet 106 = .ok (.aaload, 1) := by decide +kernel
theorem dX6_meet_107 : decode cX6_meet 107 = .ok (.getfield 63, 3) := by decide +kernel
theorem dX6_meet_110 : decode cX6_meet 110 = .ok (.iadd, 1) := by decide +kernel
theorem dX6_meet_111 : decode cX6_meet 111 = .ok (.putfield 21, 3) := by decide +kernel
theorem dX6_meet_114 : decode cX6_meet 114 = .ok (.iinc 5 1, 3) := by decide +kernel
theorem dX6_meet_117 : decode cX6_meet 117 = .ok (.goto (-114), 3) := by decide +kernel
theorem dX6_meet_120 : decode cX6_meet 120 = .ok (.aload_n 0, 1) := by decide +kernel
theorem dX6_meet_121 : decode cX6_meet 121 = .ok (.dup, 1) := by decide +kernel
theorem dX6_meet_122 : decode cX6_meet 122 = .ok (.getfield 21, 3) := by decide +kernel
theorem dX6_meet_125 : decode cX6_meet 125 = .ok (.iload 4, 2) := by decide +kernel
theorem dX6_meet_127 : decode cX6_meet 127 = .ok (.isub, 1) := by decide +kernel
theorem dX6_meet_128 : decode cX6_meet 128 = .ok (.putfield 21, 3) := by decide +kernel
theorem dX6_meet_131 : decode cX6_meet 131 = .ok (.return_, 1) := by decide +kernel
theorem dX6_choose_0 : decode cX6_choose 0 = .ok (.aload_n 2, 1) := by decide +kernel
theorem dX6_choose_1 : decode cX6_choose 1 = .ok (.iload_n 3, 1) := by decide +kernel
theorem dX6_choose_2 : decode cX6_choose 2 = .ok (.invokevirtual 68, 3) := by decide +kernel
theorem dX6_choose_5 : decode cX6_choose 5 = .ok (.astore 4, 2) := by decide +kernel
theorem dX6_choose_7 : decode cX6_choose 7 = .ok (.iconst (-1), 1) := by decide +kernel
theorem dX6_choose_8 : decode cX6_choose 8 = .ok (.istore 5, 2) := by decide +kernel
theorem dX6_choose_10 : decode cX6_choose 10 = .ok (.iconst 4, 1) := by decide +kernel
theorem dX6_choose_11 : decode cX6_choose 11 = .ok (.istore 6, 2) := by decide +kernel
theorem dX6_choose_13 : decode cX6_choose 13 = .ok (.iconst 0, 1) := by decide +kernel
theorem dX6_choose_14 : decode cX6_choose 14 = .ok (.istore 7, 2) := by decide +kernel
theorem dX6_choose_16 : decode cX6_choose 16 = .ok (.iload 7, 2) := by decide +kernel
theorem dX6_choose_18 : decode cX6_choose 18 = .ok (.aload_n 1, 1) := by decide +kernel
theorem dX6_choose_19 : decode cX6_choose 19 = .ok (.getfield 74, 3) := by decide +kernel
theorem dX6_choose_22 : decode cX6_choose 22 = .ok (.if_icmp .ge 105, 3) := by decide +kernel
theorem dX6_choose_25 : decode cX6_choose 25 = .ok (.aload_n 1, 1) := by decide +kernel
theorem dX6_choose_26 : decode cX6_choose 26 = .ok (.getfield 57, 3) := by decide +kernel
theorem dX6_choose_29 : decode cX6_choose 29 = .ok (.iload 7, 2) := by decide +kernel
theorem dX6_choose_31 : decode cX6_choose 31 = .ok (.aaload, 1) := by decide +kernel
theorem dX6_choose_32 : decode cX6_choose 32 = .ok (.astore 8, 2) := by decide +kernel
theorem dX6_choose_34 : decode cX6_choose 34 = .ok (.aload_n 0, 1) := by decide +kernel
theorem dX6_choose_35 : decode cX6_choose 35 = .ok (.getfield 9, 3) := by decide +kernel
theorem dX6_choose_38 : decode cX6_choose 38 = .ok (.iload 7, 2) := by decide +kernel
theorem dX6_choose_40 : decode cX6_choose 40 = .ok (.iaload, 1) := by decide +kernel
theorem dX6_choose_41 : decode cX6_choose 41 = .ok (.iconst (-1), 1) := by decide +kernel
theorem dX6_choose_42 : decode cX6_choose 42 = .ok (.if_icmp .ne 79, 3) := by decide +kernel
theorem dX6_choose_45 : decode cX6_choose 45 = .ok (.aload 8, 2) := by decide +kernel
theorem dX6_choose_47 : decode cX6_choose 47 = .ok (.invokevirtual 75, 3) := by decide +kernel
theorem dX6_choose_50 : decode cX6_choose 50 = .ok (.ifCond .eq 71, 3) := by decide +kernel
theorem dX6_choose_53 : decode cX6_choose 53 = .ok (.aload_n 2, 1) := by decide +kernel
theorem dX6_choose_54 : decode cX6_choose 54 = .ok (.aload 8, 2) := by decide +kernel
theorem dX6_choose_56 : decode cX6_choose 56 = .ok (.aload 4, 2) := by decide +kernel
theorem dX6_choose_58 : decode cX6_choose 58 = .ok (.invokevirtual 79, 3) := by decide +kernel
theorem dX6_choose_61 : decode cX6_choose 61 = .ok (.istore 9, 2) := by decide +kernel
theorem dX6_choose_63 : decode cX6_choose 63 = .ok (.iload 5, 2) := by decide +kernel
theorem dX6_choose_65 : decode cX6_choose 65 = .ok (.iconst (-1), 1) := by decide +kernel
theorem dX6_choose_66 : decode cX6_choose 66 = .ok (.if_icmp .eq 25, 3) := by decide +kernel
theorem dX6_choose_69 : decode cX6_choose 69 = .ok (.aload 8, 2) := by decide +kernel
theorem dX6_choose_71 : decode cX6_choose 71 = .ok (.getfield 63, 3) := by decide +kernel
theorem dX6_choose_74 : decode cX6_choose 74 = .ok (.aload_n 1, 1) := by decide +kernel
theorem dX6_choose_75 : decode cX6_choose 75 = .ok (.getfield 57, 3) := by decide +kernel
theorem dX6_choose_78 : decode cX6_choose 78 = .ok (.iload 5, 2) := by decide +kernel
theorem dX6_choose_80 : decode cX6_choose 80 = .ok (.aaload, 1) := by decide +kernel
theorem dX6_choose_81 : decode cX6_choose 81 = .ok (.getfield 63, 3) := by decide +kernel
theorem dX6_choose_84 : decode cX6_choose 84 = .ok (.if_icmp .le 7, 3) := by decide +kernel
theorem dX6_choose_87 : decode cX6_choose 87 = .ok (.iconst 1, 1) := by decide +kernel
theorem dX6_choose_88 : decode cX6_choose 88 = .ok (.goto 4, 3) := by decide +kernel
theorem dX6_choose_91 : decode cX6_choose 91 = .ok (.iconst 0, 1) := by decide +kernel
theorem dX6_choose_92 : decode cX6_choose 92 = .ok (.istore 10, 2) := by decide +kernel
theorem dX6_choose_94 : decode cX6_choose 94 = .ok (.iload 9, 2) := by decide +kernel
theorem dX6_choose_96 : decode cX6_choose 96 = .ok (.iload 6, 2) := by decide +kernel
theorem dX6_choose_98 : decode cX6_choose 98 = .ok (.if_icmp .lt 15, 3) := by decide +kernel
theorem dX6_choose_101 : decode cX6_choose 101 = .ok (.iload 9, 2) := by decide +kernel
theorem dX6_choose_103 : decode cX6_choose 103 = .ok (.iload 6, 2) := by decide +kernel
theorem dX6_choose_105 : decode cX6_choose 105 = .ok (.if_icmp .ne 16, 3) := by decide +kernel
theorem dX6_choose_108 : decode cX6_choose 108 = .ok (.iload 10, 2) := by decide +kernel
theorem dX6_choose_110 : decode cX6_choose 110 = .ok (.ifCond .eq 11, 3) := by decide +kernel
theorem dX6_choose_113 : decode cX6_choose 113 = .ok (.iload 7, 2) := by decide +kernel
theorem dX6_choose_115 : decode cX6_choose 115 = .ok (.istore 5, 2) := by decide +kernel
theorem dX6_choose_117 : decode cX6_choose 117 = .ok (.iload 9, 2) := by decide +kernel
theorem dX6_choose_119 : decode cX6_choose 119 = .ok (.istore 6, 2) := by decide +kernel
theorem dX6_choose_121 : decode cX6_choose 121 = .ok (.iinc 7 1, 3) := by decide +kernel
theorem dX6_choose_124 : decode cX6_choose 124 = .ok (.goto (-108), 3) := by decide +kernel
theorem dX6_choose_127 : decode cX6_choose 127 = .ok (.iload 5, 2) := by decide +kernel
theorem dX6_choose_129 : decode cX6_choose 129 = .ok (.ireturn, 1) := by decide +kernel
theorem dX7_init_0 : decode cX7_init 0 = .ok (.aload_n 0, 1) := by decide +kernel
theorem dX7_init_1 : decode cX7_init 1 = .ok (.invokespecial 3, 3) := by decide +kernel
theorem dX7_init_4 : decode cX7_init 4 = .ok (.aload_n 0, 1) := by decide +kernel
theorem dX7_init_5 : decode cX7_init 5 = .ok (.bipush 20, 2) := by decide +kernel
theorem dX7_init_7 : decode cX7_init 7 = .ok (.putfield 9, 3) := by decide +kernel
theorem dX7_init_10 : decode cX7_init 10 = .ok (.aload_n 0, 1) := by decide +kernel
theorem dX7_init_11 : decode cX7_init 11 = .ok (.sipush 2741, 3) := by decide +kernel
theorem dX7_init_14 : decode cX7_init 14 = .ok (.putfield 15, 3) := by decide +kernel
theorem dX7_init_17 : decode cX7_init 17 = .ok (.return_, 1) := by decide +kernel
theorem dX7_hear_0 : decode cX7_hear 0 = .ok (.aload_n 0, 1) := by decide +kernel
theorem dX7_hear_1 : decode cX7_hear 1 = .ok (.iconst 0, 1) := by decide +kernel
theorem dX7_hear_2 : decode cX7_hear 2 = .ok (.putfield 18, 3) := by decide +kernel
theorem dX7_hear_5 : decode cX7_hear 5 = .ok (.aload_n 0, 1) := by decide +kernel
theorem dX7_hear_6 : decode cX7_hear 6 = .ok (.iconst (-1), 1) := by decide +kernel
theorem dX7_hear_7 : decode cX7_hear 7 = .ok (.putfield 21, 3) := by decide +kernel
theorem dX7_hear_10 : decode cX7_hear 10 = .ok (.iconst 0, 1) := by decide +kernel
theorem dX7_hear_11 : decode cX7_hear 11 = .ok (.istore_n 3, 1) := by decide +kernel
theorem dX7_hear_12 : decode cX7_hear 12 = .ok (.iload_n 3, 1) := by decide +kernel
theorem dX7_hear_13 : decode cX7_hear 13 = .ok (.aload_n 1, 1) := by decide +kernel
theorem dX7_hear_14 : decode cX7_hear 14 = .ok (.getfield 24, 3) := by decide +kernel
theorem dX7_hear_17 : decode cX7_hear 17 = .ok (.if_icmp .ge 88, 3) := by decide +kernel
theorem dX7_hear_20 : decode cX7_hear 20 = .ok (.aload_n 1, 1) := by decide +kernel
theorem dX7_hear_21 : decode cX7_hear 21 = .ok (.getfield 29, 3) := by decide +kernel
theorem dX7_hear_24 : decode cX7_hear 24 = .ok (.iload_n 3, 1) := by decide +kernel
theorem dX7_hear_25 : decode cX7_hear 25 = .ok (.aaload, 1) := by decide +kernel
theorem dX7_hear_26 : decode cX7_hear 26 = .ok (.astore 4, 2) := by decide +kernel
theorem dX7_hear_28 : decode cX7_hear 28 = .ok (.aload 4, 2) := by decide +kernel
theorem dX7_hear_30 : decode cX7_hear 30 = .ok (.getfield 33, 3) := by decide +kernel
theorem dX7_hear_33 : decode cX7_hear 33 = .ok (.iload_n 2, 1) := by decide +kernel
theorem dX7_hear_34 : decode cX7_hear 34 = .ok (.if_icmp .ne 65, 3) := by decide +kernel
theorem dX7_hear_37 : decode cX7_hear 37 = .ok (.aload 4, 2) := by decide +kernel
theorem dX7_hear_39 : decode cX7_hear 39 = .ok (.invokevirtual 38, 3) := by decide +kernel
theorem dX7_hear_42 : decode cX7_hear 42 = .ok (.ifCond .eq 57, 3) := by decide +kernel
theorem dX7_hear_45 : decode cX7_hear 45 = .ok (.aload_n 0, 1) := by decide +kernel
theorem dX7_hear_46 : decode cX7_hear 46 = .ok (.dup, 1) := by decide +kernel
theorem dX7_hear_47 : decode cX7_hear 47 = .ok (.getfield 18, 3) := by decide +kernel
theorem dX7_hear_50 : decode cX7_hear 50 = .ok (.iconst 1, 1) := by decide +kernel
theorem dX7_hear_51 : decode cX7_hear 51 = .ok (.iadd, 1) := by decide +kernel
theorem dX7_hear_52 : decode cX7_hear 52 = .ok (.putfield 18, 3) := by decide +kernel
theorem dX7_hear_55 : decode cX7_hear 55 = .ok (.aload_n 0, 1) := by decide +kernel
theorem dX7_hear_56 : decode cX7_hear 56 = .ok (.getfield 21, 3) := by decide +kernel
theorem dX7_hear_59 : decode cX7_hear 59 = .ok (.iconst (-1), 1) := by decide +kernel
theorem dX7_hear_60 : decode cX7_hear 60 = .ok (.if_icmp .eq 23, 3) := by decide +kernel
theorem dX7_hear_63 : decode cX7_hear 63 = .ok (.aload 4, 2) := by decide +kernel
theorem dX7_hear_65 : decode cX7_hear 65 = .ok (.getfield 42, 3) := by decide +kernel
theorem dX7_hear_68 : decode cX7_hear 68 = .ok (.aload_n 1, 1) := by decide +kernel
theorem dX7_hear_69 : decode cX7_hear 69 = .ok (.getfield 29, 3) := by decide +kernel
theorem dX7_hear_72 : decode cX7_hear 72 = .ok (.aload_n 0, 1) := by decide +kernel
theorem dX7_hear_73 : decode cX7_hear 73 = .ok (.getfield 21, 3) := by decide +kernel
theorem dX7_hear_76 : decode cX7_hear 76 = .ok (.aaload, 1) := by decide +kernel
theorem dX7_hear_77 : decode cX7_hear 77 = .ok (.getfield 42, 3) := by decide +kernel
theorem dX7_hear_80 : decode cX7_hear 80 = .ok (.if_icmp .le 19, 3) := by decide +kernel
theorem dX7_hear_83 : decode cX7_hear 83 = .ok (.aload_n 0, 1) := by decide +kernel
theorem dX7_hear_84 : decode cX7_hear 84 = .ok (.iload_n 3, 1) := by decide +kernel
theorem dX7_hear_85 : decode cX7_hear 85 = .ok (.putfield 21, 3) := by decide +kernel
theorem dX7_hear_88 : decode cX7_hear 88 = .ok (.aload_n 0, 1) := by decide +kernel
theorem dX7_hear_89 : decode cX7_hear 89 = .ok (.aload 4, 2) := by decide +kernel
theorem dX7_hear_91 : decode cX7_hear 91 = .ok (.getfield 45, 3) := by decide +kernel
theorem dX7_hear_94 : decode cX7_hear 94 = .ok (.iconst 4, 1) := by decide +kernel
theorem dX7_hear_95 : decode cX7_hear 95 = .ok (.iaload, 1) := by decide +kernel
theorem dX7_hear_96 : decode cX7_hear 96 = .ok (.putfield 49, 3) := by decide +kernel
theorem dX7_hear_99 : decode cX7_hear 99 = .ok (.iinc 3 1, 3) := by decide +kernel
theorem dX7_hear_102 : decode cX7_hear 102 = .ok (.goto (-90), 3) := by decide +kernel
theorem dX7_hear_105 : decode cX7_hear 105 = .ok (.aload_n 0, 1) := by decide +kernel
theorem dX7_hear_106 : decode cX7_hear 106 = .ok (.aload_n 1, 1) := by decide +kernel
theorem dX7_hear_107 : decode cX7_hear 107 = .ok (.iload_n 2, 1) := by decide +kernel
theorem dX7_hear_108 : decode cX7_hear 108 = .ok (.invokevirtual 52, 3) := by decide +kernel
theorem dX7_hear_111 : decode cX7_hear 111 = .ok (.return_, 1) := by decide +kernel
theorem dX7_hearSteps_0 : decode cX7_hearSteps 0 = .ok (.aload_n 0, 1) := by decide +kernel
theorem dX7_hearSteps_1 : decode cX7_hearSteps 1 = .ok (.iconst 0, 1) := by decide +kernel
theorem dX7_hearSteps_2 : decode cX7_hearSteps 2 = .ok (.putfield 56, 3) := by decide +kernel
theorem dX7_hearSteps_5 : decode cX7_hearSteps 5 = .ok (.aload_n 0, 1) := by decide +kernel
theorem dX7_hearSteps_6 : decode cX7_hearSteps 6 = .ok (.iconst 0, 1) := by decide +kernel
theorem dX7_hearSteps_7 : decode cX7_hearSteps 7 = .ok (.putfield 59, 3) := by decide +kernel
theorem dX7_hearSteps_10 : decode cX7_hearSteps 10 = .ok (.iconst 0, 1) := by decide +kernel
theorem dX7_hearSteps_11 : decode cX7_hearSteps 11 = .ok (.istore_n 3, 1) := by decide +kernel
theorem dX7_hearSteps_12 : decode cX7_hearSteps 12 = .ok (.iload_n 3, 1) := by decide +kernel
theorem dX7_hearSteps_13 : decode cX7_hearSteps 13 = .ok (.aload_n 1, 1) := by decide +kernel
theorem dX7_hearSteps_14 : decode cX7_hearSteps 14 = .ok (.getfield 24, 3) := by decide +kernel
theorem dX7_hearSteps_17 : decode cX7_hearSteps 17 = .ok (.if_icmp .ge 74, 3) := by decide +kernel
theorem dX7_hearSteps_20 : decode cX7_hearSteps 20 = .ok (.aload_n 1, 1) := by decide +kernel
theorem dX7_hearSteps_21 : decode cX7_hearSteps 21 = .ok (.getfield 29, 3) := by decide +kernel
theorem dX7_hearSteps_24 : decode cX7_hearSteps 24 = .ok (.iload_n 3, 1) := by decide +kernel
theorem dX7_hearSteps_25 : decode cX7_hearSteps 25 = .ok (.aaload, 1) := by decide +kernel
theorem dX7_hearSteps_26 : decode cX7_hearSteps 26 = .ok (.astore 4, 2) := by decide +kernel
theorem dX7_hearSteps_28 : decode cX7_hearSteps 28 = .ok (.aload 4, 2) := by decide +kernel
theorem dX7_hearSteps_30 : decode cX7_hearSteps 30 = .ok (.getfield 33, 3) := by decide +kernel
theorem dX7_hearSteps_33 : decode cX7_hearSteps 33 = .ok (.iload_n 2, 1) := by decide +kernel
theorem dX7_hearSteps_34 : decode cX7_hearSteps 34 = .ok (.if_icmp .ne 51, 3) := by decide +kernel
theorem dX7_hearSteps_37 : decode cX7_hearSteps 37 = .ok (.aload 4, 2) := by decide +kernel
theorem dX7_hearSteps_39 : decode cX7_hearSteps 39 = .ok (.invokevirtual 38, 3) := by decide +kernel
theorem dX7_hearSteps_42 : decode cX7_hearSteps 42 = .ok (.ifCond .eq 43, 3) := by decide +kernel
theorem dX7_hearSteps_45 : decode cX7_hearSteps 45 = .ok (.aload_n 0, 1) := by decide +kernel
theorem dX7_hearSteps_46 : decode cX7_hearSteps 46 = .ok (.aload 4, 2) := by decide +kernel
theorem dX7_hearSteps_48 : decode cX7_hearSteps 48 = .ok (.invokevirtual 62, 3) := by decide +kernel
theorem dX7_hearSteps_51 : decode cX7_hearSteps 51 = .ok (.istore 5, 2) := by decide +kernel
theorem dX7_hearSteps_53 : decode cX7_hearSteps 53 = .ok (.iload 5, 2) := by decide +kernel
theorem dX7_hearSteps_55 : decode cX7_hearSteps 55 = .ok (.iconst (-1), 1) := by decide +kernel
theorem dX7_hearSteps_56 : decode cX7_hearSteps 56 = .ok (.if_icmp .ne 16, 3) := by decide +kernel
theorem dX7_hearSteps_59 : decode cX7_hearSteps 59 = .ok (.aload_n 0, 1) := by decide +kernel
theorem dX7_hearSteps_60 : decode cX7_hearSteps 60 = .ok (.dup, 1) := by decide +kernel
theorem dX7_hearSteps_61 : decode cX7_hearSteps 61 = .ok (.getfield 56, 3) := by decide +kernel
theorem dX7_hearSteps_64 : decode cX7_hearSteps 64 = .ok (.iconst 1, 1) := by decide +kernel
theorem dX7_hearSteps_65 : decode cX7_hearSteps 65 = .ok (.iadd, 1) := by decide +kernel
theorem dX7_hearSteps_66 : decode cX7_hearSteps 66 = .ok (.putfield 56, 3) := by decide +kernel
theorem dX7_hearSteps_69 : decode cX7_hearSteps 69 = .ok (.goto 16, 3) := by decide +kernel
theorem dX7_hearSteps_72 : decode cX7_hearSteps 72 = .ok (.aload_n 0, 1) := by decide +kernel
theorem dX7_hearSteps_73 : decode cX7_hearSteps 73 = .ok (.dup, 1) := by decide +kernel
theorem dX7_hearSteps_74 : decode cX7_hearSteps 74 = .ok (.getfield 59, 3) := by decide +kernel
theorem dX7_hearSteps_77 : decode cX7_hearSteps 77 = .ok (.iconst 1, 1) := by decide +kernel
theorem dX7_hearSteps_78 : decode cX7_hearSteps 78 = .ok (.iload 5, 2) := by decide +kernel
theorem dX7_hearSteps_80 : decode cX7_hearSteps 80 = .ok (.ishl, 1) := by decide +kernel
theorem dX7_hearSteps_81 : decode cX7_hearSteps 81 = .ok (.ior, 1) := by decide +kernel
theorem dX7_hearSteps_82 : decode cX7_hearSteps 82 = .ok (.putfield 59, 3) := by decide +kernel
theorem dX7_hearSteps_85 : decode cX7_hearSteps 85 = .ok (.iinc 3 1, 3) := by decide +kernel
theorem dX7_hearSteps_88 : decode cX7_hearSteps 88 = .ok (.goto (-76), 3) := by decide +kernel
theorem dX7_hearSteps_91 : decode cX7_hearSteps 91 = .ok (.return_, 1) := by decide +kernel
theorem dX7_stepOf_0 : decode cX7_stepOf 0 = .ok (.aload_n 1, 1) := by decide +kernel
theorem dX7_stepOf_1 : decode cX7_stepOf 1 = .ok (.getfield 45, 3) := by decide +kernel
theorem dX7_stepOf_4 : decode cX7_stepOf 4 = .ok (.iconst 4, 1) := by decide +kernel
theorem dX7_stepOf_5 : decode cX7_stepOf 5 = .ok (.iaload, 1) := by decide +kernel
theorem dX7_stepOf_6 : decode cX7_stepOf 6 = .ok (.istore_n 2, 1) := by decide +kernel
theorem dX7_stepOf_7 : decode cX7_stepOf 7 = .ok (.aload_n 0, 1) := by decide +kernel
theorem dX7_stepOf_8 : decode cX7_stepOf 8 = .ok (.getfield 21, 3) := by decide +kernel
theorem dX7_stepOf_11 : decode cX7_stepOf 11 = .ok (.iconst (-1), 1) := by decide +kernel
theorem dX7_stepOf_12 : decode cX7_stepOf 12 = .ok (.if_icmp .eq 8, 3) := by decide +kernel
theorem dX7_stepOf_15 : decode cX7_stepOf 15 = .ok (.iload_n 2, 1) := by decide +kernel
theorem dX7_stepOf_16 : decode cX7_stepOf 16 = .ok (.iconst (-1), 1) := by decide +kernel
theorem dX7_stepOf_17 : decode cX7_stepOf 17 = .ok (.if_icmp .ne 5, 3) := by decide +kernel
theorem dX7_stepOf_20 : decode cX7_stepOf 20 = .ok (.iconst (-1), 1) := by decide +kernel
theorem dX7_stepOf_21 : decode cX7_stepOf 21 = .ok (.ireturn, 1) := by decide +kernel
theorem dX7_stepOf_22 : decode cX7_stepOf 22 = .ok (.iload_n 2, 1) := by decide +kernel
theorem dX7_stepOf_23 : decode cX7_stepOf 23 = .ok (.aload_n 0, 1) := by decide +kernel
theorem dX7_stepOf_24 : decode cX7_stepOf 24 = .ok (.getfield 49, 3) := by decide +kernel
theorem dX7_stepOf_27 : decode cX7_stepOf 27 = .ok (.isub, 1) := by decide +kernel
theorem dX7_stepOf_28 : decode cX7_stepOf 28 = .ok (.sipush 1200, 3) := by decide +kernel
theorem dX7_stepOf_31 : decode cX7_stepOf 31 = .ok (.invokestatic 66, 3) := by decide +kernel
theorem dX7_stepOf_34 : decode cX7_stepOf 34 = .ok (.istore_n 3, 1) := by decide +kernel
theorem dX7_stepOf_35 : decode cX7_stepOf 35 = .ok (.iconst 0, 1) := by decide +kernel
theorem dX7_stepOf_36 : decode cX7_stepOf 36 = .ok (.istore 4, 2) := by decide +kernel
theorem dX7_stepOf_38 : decode cX7_stepOf 38 = .ok (.iload 4, 2) := by decide +kernel
theorem dX7_stepOf_40 : decode cX7_stepOf 40 = .ok (.bipush 12, 2) := by decide +kernel
theorem dX7_stepOf_42 : decode cX7_stepOf 42 = .ok (.if_icmp .gt 32, 3) := by decide +kernel
theorem dX7_stepOf_45 : decode cX7_stepOf 45 = .ok (.iload_n 3, 1) := by decide +kernel
theorem dX7_stepOf_46 : decode cX7_stepOf 46 = .ok (.bipush 100, 2) := by decide +kernel
theorem dX7_stepOf_48 : decode cX7_stepOf 48 = .ok (.iload 4, 2) := by decide +kernel
theorem dX7_stepOf_50 : decode cX7_stepOf 50 = .ok (.imul, 1) := by decide +kernel
theorem dX7_stepOf_51 : decode cX7_stepOf 51 = .ok (.isub, 1) := by decide +kernel
theorem dX7_stepOf_52 : decode cX7_stepOf 52 = .ok (.invokestatic 72, 3) := by decide +kernel
theorem dX7_stepOf_55 : decode cX7_stepOf 55 = .ok (.aload_n 0, 1) := by decide +kernel
theorem dX7_stepOf_56 : decode cX7_stepOf 56 = .ok (.getfield 9, 3) := by decide +kernel
theorem dX7_stepOf_59 : decode cX7_stepOf 59 = .ok (.if_icmp .gt 9, 3) := by decide +kernel
theorem dX7_stepOf_62 : decode cX7_stepOf 62 = .ok (.iload 4, 2) := by decide +kernel
theorem dX7_stepOf_64 : decode cX7_stepOf 64 = .ok (.bipush 12, 2) := by decide +kernel
theorem dX7_stepOf_66 : decode cX7_stepOf 66 = .ok (.irem, 1) := by decide +kernel
theorem dX7_stepOf_67 : decode cX7_stepOf 67 = .ok (.ireturn, 1) := by decide +kernel
theorem dX7_stepOf_68 : decode cX7_stepOf 68 = .ok (.iinc 4 1, 3) := by decide +kernel
theorem dX7_stepOf_71 : decode cX7_stepOf 71 = .ok (.goto (-33), 3) := by decide +kernel
theorem dX7_stepOf_74 : decode cX7_stepOf 74 = .ok (.iconst (-1), 1) := by decide +kernel
theorem dX7_stepOf_75 : decode cX7_stepOf 75 = .ok (.ireturn, 1) := by decide +kernel
theorem dX7_told_0 : decode cX7_told 0 = .ok (.iload_n 2, 1) := by decide +kernel
theorem dX7_told_1 : decode cX7_told 1 = .ok (.tableswitch 68 0 4 #[35, 40, 45, 50, 55], 35) := by decide +kernel
theorem dX7_told_36 : decode cX7_told 36 = .ok (.aload_n 0, 1) := by decide +kernel
theorem dX7_told_37 : decode cX7_told 37 = .ok (.getfield 18, 3) := by decide +kernel
theorem dX7_told_40 : decode cX7_told 40 = .ok (.ireturn, 1) := by decide +kernel
theorem dX7_told_41 : decode cX7_told 41 = .ok (.aload_n 0, 1) := by decide +kernel
theorem dX7_told_42 : decode cX7_told 42 = .ok (.getfield 21, 3) := by decide +kernel
theorem dX7_told_45 : decode cX7_told 45 = .ok (.ireturn, 1) := by decide +kernel
theorem dX7_told_46 : decode cX7_told 46 = .ok (.aload_n 0, 1) := by decide +kernel
theorem dX7_told_47 : decode cX7_told 47 = .ok (.getfield 56, 3) := by decide +kernel
theorem dX7_told_50 : decode cX7_told 50 = .ok (.ireturn, 1) := by decide +kernel
theorem dX7_told_51 : decode cX7_told 51 = .ok (.aload_n 0, 1) := by decide +kernel
theorem dX7_told_52 : decode cX7_told 52 = .ok (.invokevirtual 76, 3) := by decide +kernel
theorem dX7_told_55 : decode cX7_told 55 = .ok (.ireturn, 1) := by decide +kernel
theorem dX7_told_56 : decode cX7_told 56 = .ok (.aload_n 0, 1) := by decide +kernel
theorem dX7_told_57 : decode cX7_told 57 = .ok (.invokevirtual 80, 3) := by decide +kernel
theorem dX7_told_60 : decode cX7_told 60 = .ok (.ifCond .eq 7, 3) := by decide +kernel
theorem dX7_told_63 : decode cX7_told 63 = .ok (.iconst 1, 1) := by decide +kernel
theorem dX7_told_64 : decode cX7_told 64 = .ok (.goto 4, 3) := by decide +kernel
theorem dX7_told_67 : decode cX7_told 67 = .ok (.iconst 0, 1) := by decide +kernel
theorem dX7_told_68 : decode cX7_told 68 = .ok (.ireturn, 1) := by decide +kernel
theorem dX7_told_69 : decode cX7_told 69 = .ok (.aload_n 0, 1) := by decide +kernel
theorem dX7_told_70 : decode cX7_told 70 = .ok (.aload_n 1, 1) := by decide +kernel
theorem dX7_told_71 : decode cX7_told 71 = .ok (.invokevirtual 83, 3) := by decide +kernel
theorem dX7_told_74 : decode cX7_told 74 = .ok (.ireturn, 1) := by decide +kernel
theorem dX7_missing_0 : decode cX7_missing 0 = .ok (.aload_n 0, 1) := by decide +kernel
theorem dX7_missing_1 : decode cX7_missing 1 = .ok (.getfield 15, 3) := by decide +kernel
theorem dX7_missing_4 : decode cX7_missing 4 = .ok (.aload_n 0, 1) := by decide +kernel
theorem dX7_missing_5 : decode cX7_missing 5 = .ok (.getfield 59, 3) := by decide +kernel
theorem dX7_missing_8 : decode cX7_missing 8 = .ok (.iconst (-1), 1) := by decide +kernel
theorem dX7_missing_9 : decode cX7_missing 9 = .ok (.ixor, 1) := by decide +kernel
theorem dX7_missing_10 : decode cX7_missing 10 = .ok (.iand, 1) := by decide +kernel
theorem dX7_missing_11 : decode cX7_missing 11 = .ok (.ireturn, 1) := by decide +kernel
theorem dX7_isWhole_0 : decode cX7_isWhole 0 = .ok (.aload_n 0, 1) := by decide +kernel
theorem dX7_isWhole_1 : decode cX7_isWhole 1 = .ok (.getfield 18, 3) := by decide +kernel
theorem dX7_isWhole_4 : decode cX7_isWhole 4 = .ok (.ifCond .le 25, 3) := by decide +kernel
theorem dX7_isWhole_7 : decode cX7_isWhole 7 = .ok (.aload_n 0, 1) := by decide +kernel
theorem dX7_isWhole_8 : decode cX7_isWhole 8 = .ok (.getfield 56, 3) := by decide +kernel
theorem dX7_isWhole_11 : decode cX7_isWhole 11 = .ok (.ifCond .ne 18, 3) := by decide +kernel
theorem dX7_isWhole_14 : decode cX7_isWhole 14 = .ok (.aload_n 0, 1) := by decide +kernel
theorem dX7_isWhole_15 : decode cX7_isWhole 15 = .ok (.getfield 59, 3) := by decide +kernel
theorem dX7_isWhole_18 : decode cX7_isWhole 18 = .ok (.aload_n 0, 1) := by decide +kernel
theorem dX7_isWhole_19 : decode cX7_isWhole 19 = .ok (.getfield 15, 3) := by decide +kernel
theorem dX7_isWhole_22 : decode cX7_isWhole 22 = .ok (.if_icmp .ne 7, 3) := by decide +kernel
theorem dX7_isWhole_25 : decode cX7_isWhole 25 = .ok (.iconst 1, 1) := by decide +kernel
theorem dX7_isWhole_26 : decode cX7_isWhole 26 = .ok (.goto 4, 3) := by decide +kernel
theorem dX7_isWhole_29 : decode cX7_isWhole 29 = .ok (.iconst 0, 1) := by decide +kernel
theorem dX7_isWhole_30 : decode cX7_isWhole 30 = .ok (.ireturn, 1) := by decide +kernel
theorem dX7_filling_0 : decode cX7_filling 0 = .ok (.iconst (-1), 1) := by decide +kernel
theorem dX7_filling_1 : decode cX7_filling 1 = .ok (.istore_n 2, 1) := by decide +kernel
theorem dX7_filling_2 : decode cX7_filling 2 = .ok (.iconst 0, 1) := by decide +kernel
theorem dX7_filling_3 : decode cX7_filling 3 = .ok (.istore_n 3, 1) := by decide +kernel
theorem dX7_filling_4 : decode cX7_filling 4 = .ok (.iload_n 3, 1) := by decide +kernel
theorem dX7_filling_5 : decode cX7_filling 5 = .ok (.aload_n 1, 1) := by decide +kernel
theorem dX7_filling_6 : decode cX7_filling 6 = .ok (.getfield 24, 3) := by decide +kernel
theorem dX7_filling_9 : decode cX7_filling 9 = .ok (.if_icmp .ge 76, 3) := by decide +kernel
theorem dX7_filling_12 : decode cX7_filling 12 = .ok (.aload_n 1, 1) := by decide +kernel
theorem dX7_filling_13 : decode cX7_filling 13 = .ok (.getfield 29, 3) := by decide +kernel
theorem dX7_filling_16 : decode cX7_filling 16 = .ok (.iload_n 3, 1) := by decide +kernel
theorem dX7_filling_17 : decode cX7_filling 17 = .ok (.aaload, 1) := by decide +kernel
theorem dX7_filling_18 : decode cX7_filling 18 = .ok (.astore 4, 2) := by decide +kernel
theorem dX7_filling_20 : decode cX7_filling 20 = .ok (.aload 4, 2) := by decide +kernel
theorem dX7_filling_22 : decode cX7_filling 22 = .ok (.invokevirtual 87, 3) := by decide +kernel
theorem dX7_filling_25 : decode cX7_filling 25 = .ok (.ifCond .eq 54, 3) := by decide +kernel
theorem dX7_filling_28 : decode cX7_filling 28 = .ok (.iload_n 2, 1) := by decide +kernel
theorem dX7_filling_29 : decode cX7_filling 29 = .ok (.iconst (-1), 1) := by decide +kernel
theorem dX7_filling_30 : decode cX7_filling 30 = .ok (.if_icmp .eq 20, 3) := by decide +kernel
theorem dX7_filling_33 : decode cX7_filling 33 = .ok (.aload 4, 2) := by decide +kernel
theorem dX7_filling_35 : decode cX7_filling 35 = .ok (.getfield 42, 3) := by decide +kernel
theorem dX7_filling_38 : decode cX7_filling 38 = .ok (.aload_n 1, 1) := by decide +kernel
theorem dX7_filling_39 : decode cX7_filling 39 = .ok (.getfield 29, 3) := by decide +kernel
theorem dX7_filling_42 : decode cX7_filling 42 = .ok (.iload_n 2, 1) := by decide +kernel
theorem dX7_filling_43 : decode cX7_filling 43 = .ok (.aaload, 1) := by decide +kernel
theorem dX7_filling_44 : decode cX7_filling 44 = .ok (.getfield 42, 3) := by decide +kernel
theorem dX7_filling_47 : decode cX7_filling 47 = .ok (.if_icmp .le 32, 3) := by decide +kernel
theorem dX7_filling_50 : decode cX7_filling 50 = .ok (.aload_n 0, 1) := by decide +kernel
theorem dX7_filling_51 : decode cX7_filling 51 = .ok (.aload 4, 2) := by decide +kernel
theorem dX7_filling_53 : decode cX7_filling 53 = .ok (.invokevirtual 62, 3) := by decide +kernel
theorem dX7_filling_56 : decode cX7_filling 56 = .ok (.istore 5, 2) := by decide +kernel
theorem dX7_filling_58 : decode cX7_filling 58 = .ok (.iload 5, 2) := by decide +kernel
theorem dX7_filling_60 : decode cX7_filling 60 = .ok (.iconst (-1), 1) := by decide +kernel
theorem dX7_filling_61 : decode cX7_filling 61 = .ok (.if_icmp .eq 18, 3) := by decide +kernel
theorem dX7_filling_64 : decode cX7_filling 64 = .ok (.aload_n 0, 1) := by decide +kernel
theorem dX7_filling_65 : decode cX7_filling 65 = .ok (.invokevirtual 76, 3) := by decide +kernel
theorem dX7_filling_68 : decode cX7_filling 68 = .ok (.iload 5, 2) := by decide +kernel
theorem dX7_filling_70 : decode cX7_filling 70 = .ok (.ishr, 1) := by decide +kernel
theorem dX7_filling_71 : decode cX7_filling 71 = .ok (.iconst 1, 1) := by decide +kernel
theorem dX7_filling_72 : decode cX7_filling 72 = .ok (.iand, 1) := by decide +kernel
theorem dX7_filling_73 : decode cX7_filling 73 = .ok (.iconst 1, 1) := by decide +kernel
theorem dX7_filling_74 : decode cX7_filling 74 = .ok (.if_icmp .ne 5, 3) := by decide +kernel
theorem dX7_filling_77 : decode cX7_filling 77 = .ok (.iload_n 3, 1) := by decide +kernel
theorem dX7_filling_78 : decode cX7_filling 78 = .ok (.istore_n 2, 1) := by decide +kernel
theorem dX7_filling_79 : decode cX7_filling 79 = .ok (.iinc 3 1, 3) := by decide +kernel
theorem dX7_filling_82 : decode cX7_filling 82 = .ok (.goto (-78), 3) := by decide +kernel
theorem dX7_filling_85 : decode cX7_filling 85 = .ok (.iload_n 2, 1) := by decide +kernel
theorem dX7_filling_86 : decode cX7_filling 86 = .ok (.ireturn, 1) := by decide +kernel
theorem dX8_init_0 : decode cX8_init 0 = .ok (.aload_n 0, 1) := by decide +kernel
theorem dX8_init_1 : decode cX8_init 1 = .ok (.invokespecial 3, 3) := by decide +kernel
theorem dX8_init_4 : decode cX8_init 4 = .ok (.aload_n 0, 1) := by decide +kernel
theorem dX8_init_5 : decode cX8_init 5 = .ok (.bipush 10, 2) := by decide +kernel
theorem dX8_init_7 : decode cX8_init 7 = .ok (.newarray .int, 2) := by decide +kernel
theorem dX8_init_9 : decode cX8_init 9 = .ok (.putfield 9, 3) := by decide +kernel
theorem dX8_init_12 : decode cX8_init 12 = .ok (.return_, 1) := by decide +kernel
theorem dX8_plan_0 : decode cX8_plan 0 = .ok (.aload_n 0, 1) := by decide +kernel
theorem dX8_plan_1 : decode cX8_plan 1 = .ok (.aload_n 1, 1) := by decide +kernel
theorem dX8_plan_2 : decode cX8_plan 2 = .ok (.invokevirtual 15, 3) := by decide +kernel
theorem dX8_plan_5 : decode cX8_plan 5 = .ok (.aload_n 0, 1) := by decide +kernel
theorem dX8_plan_6 : decode cX8_plan 6 = .ok (.iconst 0, 1) := by decide +kernel
theorem dX8_plan_7 : decode cX8_plan 7 = .ok (.putfield 19, 3) := by decide +kernel
theorem dX8_plan_10 : decode cX8_plan 10 = .ok (.aload_n 0, 1) := by decide +kernel
theorem dX8_plan_11 : decode cX8_plan 11 = .ok (.iconst 0, 1) := by decide +kernel
theorem dX8_plan_12 : decode cX8_plan 12 = .ok (.putfield 23, 3) := by decide +kernel
theorem dX8_plan_15 : decode cX8_plan 15 = .ok (.aload_n 0, 1) := by decide +kernel
theorem dX8_plan_16 : decode cX8_plan 16 = .ok (.iconst 0, 1) := by decide +kernel
theorem dX8_plan_17 : decode cX8_plan 17 = .ok (.putfield 26, 3) := by decide +kernel
theorem dX8_plan_20 : decode cX8_plan 20 = .ok (.iconst 1, 1) := by decide +kernel
theorem dX8_plan_21 : decode cX8_plan 21 = .ok (.aload_n 0, 1) := by decide +kernel
theorem dX8_plan_22 : decode cX8_plan 22 = .ok (.getfield 29, 3) := by decide +kernel
theorem dX8_plan_25 : decode cX8_plan 25 = .ok (.ishl, 1) := by decide +kernel
theorem dX8_plan_26 : decode cX8_plan 26 = .ok (.iconst 1, 1) := by decide +kernel
theorem dX8_plan_27 : decode cX8_plan 27 = .ok (.isub, 1) := by decide +kernel
theorem dX8_plan_28 : decode cX8_plan 28 = .ok (.istore_n 2, 1) := by decide +kernel
theorem dX8_plan_29 : decode cX8_plan 29 = .ok (.iload_n 2, 1) := by decide +kernel
theorem dX8_plan_30 : decode cX8_plan 30 = .ok (.ifCond .le 37, 3) := by decide +kernel
theorem dX8_plan_33 : decode cX8_plan 33 = .ok (.aload_n 0, 1) := by decide +kernel
theorem dX8_plan_34 : decode cX8_plan 34 = .ok (.getfield 23, 3) := by decide +kernel
theorem dX8_plan_37 : decode cX8_plan 37 = .ok (.aload_n 0, 1) := by decide +kernel
theorem dX8_plan_38 : decode cX8_plan 38 = .ok (.getfield 29, 3) := by decide +kernel
theorem dX8_plan_41 : decode cX8_plan 41 = .ok (.if_icmp .ge 26, 3) := by decide +kernel
theorem dX8_plan_44 : decode cX8_plan 44 = .ok (.iload_n 2, 1) := by decide +kernel
theorem dX8_plan_45 : decode cX8_plan 45 = .ok (.invokestatic 32, 3) := by decide +kernel
theorem dX8_plan_48 : decode cX8_plan 48 = .ok (.aload_n 0, 1) := by decide +kernel
theorem dX8_plan_49 : decode cX8_plan 49 = .ok (.getfield 23, 3) := by decide +kernel
theorem dX8_plan_52 : decode cX8_plan 52 = .ok (.if_icmp .lt 9, 3) := by decide +kernel
theorem dX8_plan_55 : decode cX8_plan 55 = .ok (.aload_n 0, 1) := by decide +kernel
theorem dX8_plan_56 : decode cX8_plan 56 = .ok (.aload_n 1, 1) := by decide +kernel
theorem dX8_plan_57 : decode cX8_plan 57 = .ok (.iload_n 2, 1) := by decide +kernel
theorem dX8_plan_58 : decode cX8_plan 58 = .ok (.invokevirtual 38, 3) := by decide +kernel
theorem dX8_plan_61 : decode cX8_plan 61 = .ok (.iinc 2 (-1), 3) := by decide +kernel
theorem dX8_plan_64 : decode cX8_plan 64 = .ok (.goto (-35), 3) := by decide +kernel
theorem dX8_plan_67 : decode cX8_plan 67 = .ok (.return_, 1) := by decide +kernel
theorem dX8_gather_0 : decode cX8_gather 0 = .ok (.aload_n 0, 1) := by decide +kernel
theorem dX8_gather_1 : decode cX8_gather 1 = .ok (.iconst 0, 1) := by decide +kernel
theorem dX8_gather_2 : decode cX8_gather 2 = .ok (.putfield 29, 3) := by decide +kernel
theorem dX8_gather_5 : decode cX8_gather 5 = .ok (.iconst 0, 1) := by decide +kernel
theorem dX8_gather_6 : decode cX8_gather 6 = .ok (.istore_n 2, 1) := by decide +kernel
theorem dX8_gather_7 : decode cX8_gather 7 = .ok (.iload_n 2, 1) := by decide +kernel
theorem dX8_gather_8 : decode cX8_gather 8 = .ok (.aload_n 1, 1) := by decide +kernel
theorem dX8_gather_9 : decode cX8_gather 9 = .ok (.getfield 42, 3) := by decide +kernel
theorem dX8_gather_12 : decode cX8_gather 12 = .ok (.if_icmp .ge 105, 3) := by decide +kernel
theorem dX8_gather_15 : decode cX8_gather 15 = .ok (.aload_n 0, 1) := by decide +kernel
theorem dX8_gather_16 : decode cX8_gather 16 = .ok (.getfield 29, 3) := by decide +kernel
theorem dX8_gather_19 : decode cX8_gather 19 = .ok (.bipush 10, 2) := by decide +kernel
theorem dX8_gather_21 : decode cX8_gather 21 = .ok (.if_icmp .ge 96, 3) := by decide +kernel
theorem dX8_gather_24 : decode cX8_gather 24 = .ok (.aload_n 1, 1) := by decide +kernel
theorem dX8_gather_25 : decode cX8_gather 25 = .ok (.getfield 45, 3) := by decide +kernel
theorem dX8_gather_28 : decode cX8_gather 28 = .ok (.iload_n 2, 1) := by decide +kernel
theorem dX8_gather_29 : decode cX8_gather 29 = .ok (.aaload, 1) := by decide +kernel
theorem dX8_gather_30 : decode cX8_gather 30 = .ok (.invokevirtual 49, 3) := by decide +kernel
theorem dX8_gather_33 : decode cX8_gather 33 = .ok (.iconst 3, 1) := by decide +kernel
theorem dX8_gather_34 : decode cX8_gather 34 = .ok (.if_icmp .ne 77, 3) := by decide +kernel
theorem dX8_gather_37 : decode cX8_gather 37 = .ok (.aload_n 0, 1) := by decide +kernel
theorem dX8_gather_38 : decode cX8_gather 38 = .ok (.getfield 29, 3) := by decide +kernel
theorem dX8_gather_41 : decode cX8_gather 41 = .ok (.istore_n 3, 1) := by decide +kernel
theorem dX8_gather_42 : decode cX8_gather 42 = .ok (.iload_n 3, 1) := by decide +kernel
theorem dX8_gather_43 : decode cX8_gather 43 = .ok (.ifCond .le 51, 3) := by decide +kernel
theorem dX8_gather_46 : decode cX8_gather 46 = .ok (.aload_n 1, 1) := by decide +kernel
theorem dX8_gather_47 : decode cX8_gather 47 = .ok (.getfield 45, 3) := by decide +kernel
theorem dX8_gather_50 : decode cX8_gather 50 = .ok (.aload_n 0, 1) := by decide +kernel
theorem dX8_gather_51 : decode cX8_gather 51 = .ok (.getfield 9, 3) := by decide +kernel
theorem dX8_gather_54 : decode cX8_gather 54 = .ok (.iload_n 3, 1) := by decide +kernel
theorem dX8_gather_55 : decode cX8_gather 55 = .ok (.iconst 1, 1) := by decide +kernel
theorem dX8_gather_56 : decode cX8_gather 56 = .ok (.isub, 1) := by decide +kernel
theorem dX8_gather_57 : decode cX8_gather 57 = .ok (.iaload, 1) := by decide +kernel
theorem dX8_gather_58 : decode cX8_gather 58 = .ok (.aaload, 1) := by decide +kernel
theorem dX8_gather_59 : decode cX8_gather 59 = .ok (.getfield 55, 3) := by decide +kernel
theorem dX8_gather_62 : decode cX8_gather 62 = .ok (.aload_n 1, 1) := by decide +kernel
theorem dX8_gather_63 : decode cX8_gather 63 = .ok (.getfield 45, 3) := by decide +kernel
theorem dX8_gather_66 : decode cX8_gather 66 = .ok (.iload_n 2, 1) := by decide +kernel
theorem dX8_gather_67 : decode cX8_gather 67 = .ok (.aaload, 1) := by decide +kernel
theorem dX8_gather_68 : decode cX8_gather 68 = .ok (.getfield 55, 3) := by decide +kernel
theorem dX8_gather_71 : decode cX8_gather 71 = .ok (.if_icmp .le 23, 3) := by decide +kernel
theorem dX8_gather_74 : decode cX8_gather 74 = .ok (.aload_n 0, 1) := by decide +kernel
theorem dX8_gather_75 : decode cX8_gather 75 = .ok (.getfield 9, 3) := by decide +kernel
theorem dX8_gather_78 : decode cX8_gather 78 = .ok (.iload_n 3, 1) := by decide +kernel
theorem dX8_gather_79 : decode cX8_gather 79 = .ok (.aload_n 0, 1) := by decide +kernel
theorem dX8_gather_80 : decode cX8_gather 80 = .ok (.getfield 9, 3) := by decide +kernel
theorem dX8_gather_83 : decode cX8_gather 83 = .ok (.iload_n 3, 1) := by decide +kernel
theorem dX8_gather_84 : decode cX8_gather 84 = .ok (.iconst 1, 1) := by decide +kernel
theorem dX8_gather_85 : decode cX8_gather 85 = .ok (.isub, 1) := by decide +kernel
theorem dX8_gather_86 : decode cX8_gather 86 = .ok (.iaload, 1) := by decide +kernel
theorem dX8_gather_87 : decode cX8_gather 87 = .ok (.iastore, 1) := by decide +kernel
theorem dX8_gather_88 : decode cX8_gather 88 = .ok (.iinc 3 (-1), 3) := by decide +kernel
theorem dX8_gather_91 : decode cX8_gather 91 = .ok (.goto (-49), 3) := by decide +kernel
theorem dX8_gather_94 : decode cX8_gather 94 = .ok (.aload_n 0, 1) := by decide +kernel
theorem dX8_gather_95 : decode cX8_gather 95 = .ok (.getfield 9, 3) := by decide +kernel
theorem dX8_gather_98 : decode cX8_gather 98 = .ok (.iload_n 3, 1) := by decide +kernel
theorem dX8_gather_99 : decode cX8_gather 99 = .ok (.iload_n 2, 1) := by decide +kernel
theorem dX8_gather_100 : decode cX8_gather 100 = .ok (.iastore, 1) := by decide +kernel
theorem dX8_gather_101 : decode cX8_gather 101 = .ok (.aload_n 0, 1) := by decide +kernel
theorem dX8_gather_102 : decode cX8_gather 102 = .ok (.dup, 1) := by decide +kernel
theorem dX8_gather_103 : decode cX8_gather 103 = .ok (.getfield 29, 3) := by decide +kernel
theorem dX8_gather_106 : decode cX8_gather 106 = .ok (.iconst 1, 1) := by decide +kernel
theorem dX8_gather_107 : decode cX8_gather 107 = .ok (.iadd, 1) := by decide +kernel
theorem dX8_gather_108 : decode cX8_gather 108 = .ok (.putfield 29, 3) := by decide +kernel
theorem dX8_gather_111 : decode cX8_gather 111 = .ok (.iinc 2 1, 3) := by decide +kernel
theorem dX8_gather_114 : decode cX8_gather 114 = .ok (.goto (-107), 3) := by decide +kernel
theorem dX8_gather_117 : decode cX8_gather 117 = .ok (.return_, 1) := by decide +kernel
theorem dX8_consider_0 : decode cX8_consider 0 = .ok (.iconst 0, 1) := by decide +kernel
theorem dX8_consider_1 : decode cX8_consider 1 = .ok (.istore_n 3, 1) := by decide +kernel
theorem dX8_consider_2 : decode cX8_consider 2 = .ok (.iconst 0, 1) := by decide +kernel
theorem dX8_consider_3 : decode cX8_consider 3 = .ok (.istore 4, 2) := by decide +kernel
theorem dX8_consider_5 : decode cX8_consider 5 = .ok (.iconst 0, 1) := by decide +kernel
theorem dX8_consider_6 : decode cX8_consider 6 = .ok (.istore 5, 2) := by decide +kernel
theorem dX8_consider_8 : decode cX8_consider 8 = .ok (.iconst 0, 1) := by decide +kernel
theorem dX8_consider_9 : decode cX8_consider 9 = .ok (.istore 6, 2) := by decide +kernel
theorem dX8_consider_11 : decode cX8_consider 11 = .ok (.iload 6, 2) := by decide +kernel
theorem dX8_consider_13 : decode cX8_consider 13 = .ok (.aload_n 0, 1) := by decide +kernel
theorem dX8_consider_14 : decode cX8_consider 14 = .ok (.getfield 29, 3) := by decide +kernel
theorem dX8_consider_17 : decode cX8_consider 17 = .ok (.if_icmp .ge 75, 3) := by decide +kernel
theorem dX8_consider_20 : decode cX8_consider 20 = .ok (.iload_n 2, 1) := by decide +kernel
theorem dX8_consider_21 : decode cX8_consider 21 = .ok (.iload 6, 2) := by decide +kernel
theorem dX8_consider_23 : decode cX8_consider 23 = .ok (.ishr, 1) := by decide +kernel
theorem dX8_consider_24 : decode cX8_consider 24 = .ok (.iconst 1, 1) := by decide +kernel
theorem dX8_consider_25 : decode cX8_consider 25 = .ok (.iand, 1) := by decide +kernel
theorem dX8_consider_26 : decode cX8_consider 26 = .ok (.iconst 1, 1) := by decide +kernel
theorem dX8_consider_27 : decode cX8_consider 27 = .ok (.if_icmp .ne 59, 3) := by decide +kernel
theorem dX8_consider_30 : decode cX8_consider 30 = .ok (.aload_n 1, 1) := by decide +kernel
theorem dX8_consider_31 : decode cX8_consider 31 = .ok (.getfield 45, 3) := by decide +kernel
theorem dX8_consider_34 : decode cX8_consider 34 = .ok (.aload_n 0, 1) := by decide +kernel
theorem dX8_consider_35 : decode cX8_consider 35 = .ok (.getfield 9, 3) := by decide +kernel
theorem dX8_consider_38 : decode cX8_consider 38 = .ok (.iload 6, 2) := by decide +kernel
theorem dX8_consider_40 : decode cX8_consider 40 = .ok (.iaload, 1) := by decide +kernel
theorem dX8_consider_41 : decode cX8_consider 41 = .ok (.aaload, 1) := by decide +kernel
theorem dX8_consider_42 : decode cX8_consider 42 = .ok (.astore 7, 2) := by decide +kernel
theorem dX8_consider_44 : decode cX8_consider 44 = .ok (.iload_n 3, 1) := by decide +kernel
theorem dX8_consider_45 : decode cX8_consider 45 = .ok (.aload 7, 2) := by decide +kernel
theorem dX8_consider_47 : decode cX8_consider 47 = .ok (.getfield 58, 3) := by decide +kernel
theorem dX8_consider_50 : decode cX8_consider 50 = .ok (.iadd, 1) := by decide +kernel
theorem dX8_consider_51 : decode cX8_consider 51 = .ok (.istore_n 3, 1) := by decide +kernel
theorem dX8_consider_52 : decode cX8_consider 52 = .ok (.iload_n 3, 1) := by decide +kernel
theorem dX8_consider_53 : decode cX8_consider 53 = .ok (.aload 7, 2) := by decide +kernel
theorem dX8_consider_55 : decode cX8_consider 55 = .ok (.getfield 55, 3) := by decide +kernel
theorem dX8_consider_58 : decode cX8_consider 58 = .ok (.if_icmp .le 4, 3) := by decide +kernel
theorem dX8_consider_61 : decode cX8_consider 61 = .ok (.return_, 1) := by decide +kernel
theorem dX8_consider_62 : decode cX8_consider 62 = .ok (.iload 4, 2) := by decide +kernel
theorem dX8_consider_64 : decode cX8_consider 64 = .ok (.aload 7, 2) := by decide +kernel
theorem dX8_consider_66 : decode cX8_consider 66 = .ok (.getfield 61, 3) := by decide +kernel
theorem dX8_consider_69 : decode cX8_consider 69 = .ok (.iadd, 1) := by decide +kernel
theorem dX8_consider_70 : decode cX8_consider 70 = .ok (.istore 4, 2) := by decide +kernel
theorem dX8_consider_72 : decode cX8_consider 72 = .ok (.iload 5, 2) := by decide +kernel
theorem dX8_consider_74 : decode cX8_consider 74 = .ok (.iconst 1, 1) := by decide +kernel
theorem dX8_consider_75 : decode cX8_consider 75 = .ok (.aload_n 0, 1) := by decide +kernel
theorem dX8_consider_76 : decode cX8_consider 76 = .ok (.getfield 9, 3) := by decide +kernel
theorem dX8_consider_79 : decode cX8_consider 79 = .ok (.iload 6, 2) := by decide +kernel
theorem dX8_consider_81 : decode cX8_consider 81 = .ok (.iaload, 1) := by decide +kernel
theorem dX8_consider_82 : decode cX8_consider 82 = .ok (.ishl, 1) := by decide +kernel
theorem dX8_consider_83 : decode cX8_consider 83 = .ok (.ior, 1) := by decide +kernel
theorem dX8_consider_84 : decode cX8_consider 84 = .ok (.istore 5, 2) := by decide +kernel
theorem dX8_consider_86 : decode cX8_consider 86 = .ok (.iinc 6 1, 3) := by decide +kernel
theorem dX8_consider_89 : decode cX8_consider 89 = .ok (.goto (-78), 3) := by decide +kernel
theorem dX8_consider_92 : decode cX8_consider 92 = .ok (.aload_n 0, 1) := by decide +kernel
theorem dX8_consider_93 : decode cX8_consider 93 = .ok (.iload_n 2, 1) := by decide +kernel
theorem dX8_consider_94 : decode cX8_consider 94 = .ok (.invokestatic 32, 3) := by decide +kernel
theorem dX8_consider_97 : decode cX8_consider 97 = .ok (.iload 4, 2) := by decide +kernel
theorem dX8_consider_99 : decode cX8_consider 99 = .ok (.iload 5, 2) := by decide +kernel
theorem dX8_consider_101 : decode cX8_consider 101 = .ok (.invokevirtual 64, 3) := by decide +kernel
theorem dX8_consider_104 : decode cX8_consider 104 = .ok (.ifCond .eq 23, 3) := by decide +kernel
theorem dX8_consider_107 : decode cX8_consider 107 = .ok (.aload_n 0, 1) := by decide +kernel
theorem dX8_consider_108 : decode cX8_consider 108 = .ok (.iload_n 2, 1) := by decide +kernel
theorem dX8_consider_109 : decode cX8_consider 109 = .ok (.invokestatic 32, 3) := by decide +kernel
theorem dX8_consider_112 : decode cX8_consider 112 = .ok (.putfield 23, 3) := by decide +kernel
theorem dX8_consider_115 : decode cX8_consider 115 = .ok (.aload_n 0, 1) := by decide +kernel
theorem dX8_consider_116 : decode cX8_consider 116 = .ok (.iload 4, 2) := by decide +kernel
theorem dX8_consider_118 : decode cX8_consider 118 = .ok (.putfield 26, 3) := by decide +kernel
theorem dX8_consider_121 : decode cX8_consider 121 = .ok (.aload_n 0, 1) := by decide +kernel
theorem dX8_consider_122 : decode cX8_consider 122 = .ok (.iload 5, 2) := by decide +kernel
theorem dX8_consider_124 : decode cX8_consider 124 = .ok (.putfield 19, 3) := by decide +kernel
theorem dX8_consider_127 : decode cX8_consider 127 = .ok (.return_, 1) := by decide +kernel
theorem dX8_isBetter_0 : decode cX8_isBetter 0 = .ok (.iload_n 1, 1) := by decide +kernel
theorem dX8_isBetter_1 : decode cX8_isBetter 1 = .ok (.aload_n 0, 1) := by decide +kernel
theorem dX8_isBetter_2 : decode cX8_isBetter 2 = .ok (.getfield 23, 3) := by decide +kernel
theorem dX8_isBetter_5 : decode cX8_isBetter 5 = .ok (.if_icmp .eq 17, 3) := by decide +kernel
theorem dX8_isBetter_8 : decode cX8_isBetter 8 = .ok (.iload_n 1, 1) := by decide +kernel
theorem dX8_isBetter_9 : decode cX8_isBetter 9 = .ok (.aload_n 0, 1) := by decide +kernel
theorem dX8_isBetter_10 : decode cX8_isBetter 10 = .ok (.getfield 23, 3) := by decide +kernel
theorem dX8_isBetter_13 : decode cX8_isBetter 13 = .ok (.if_icmp .le 7, 3) := by decide +kernel
theorem dX8_isBetter_16 : decode cX8_isBetter 16 = .ok (.iconst 1, 1) := by decide +kernel
theorem dX8_isBetter_17 : decode cX8_isBetter 17 = .ok (.goto 4, 3) := by decide +kernel
theorem dX8_isBetter_20 : decode cX8_isBetter 20 = .ok (.iconst 0, 1) := by decide +kernel
theorem dX8_isBetter_21 : decode cX8_isBetter 21 = .ok (.ireturn, 1) := by decide +kernel
theorem dX8_isBetter_22 : decode cX8_isBetter 22 = .ok (.iload_n 2, 1) := by decide +kernel
theorem dX8_isBetter_23 : decode cX8_isBetter 23 = .ok (.aload_n 0, 1) := by decide +kernel
theorem dX8_isBetter_24 : decode cX8_isBetter 24 = .ok (.getfield 26, 3) := by decide +kernel
theorem dX8_isBetter_27 : decode cX8_isBetter 27 = .ok (.if_icmp .eq 19, 3) := by decide +kernel
theorem dX8_isBetter_30 : decode cX8_isBetter 30 = .ok (.iload_n 2, 1) := by decide +kernel
theorem dX8_isBetter_31 : decode cX8_isBetter 31 = .ok (.aload_n 0, 1) := by decide +kernel
theorem dX8_isBetter_32 : decode cX8_isBetter 32 = .ok (.getfield 26, 3) := by decide +kernel
theorem dX8_isBetter_35 : decode cX8_isBetter 35 = .ok (.if_icmp .le 7, 3) := by decide +kernel
theorem dX8_isBetter_38 : decode cX8_isBetter 38 = .ok (.iconst 1, 1) := by decide +kernel
theorem dX8_isBetter_39 : decode cX8_isBetter 39 = .ok (.goto 20, 3) := by decide +kernel
theorem dX8_isBetter_42 : decode cX8_isBetter 42 = .ok (.iconst 0, 1) := by decide +kernel
theorem dX8_isBetter_43 : decode cX8_isBetter 43 = .ok (.goto 16, 3) := by decide +kernel
theorem dX8_isBetter_46 : decode cX8_isBetter 46 = .ok (.iload_n 3, 1) := by decide +kernel
theorem dX8_isBetter_47 : decode cX8_isBetter 47 = .ok (.aload_n 0, 1) := by decide +kernel
theorem dX8_isBetter_48 : decode cX8_isBetter 48 = .ok (.getfield 19, 3) := by decide +kernel
theorem dX8_isBetter_51 : decode cX8_isBetter 51 = .ok (.if_icmp .ge 7, 3) := by decide +kernel
theorem dX8_isBetter_54 : decode cX8_isBetter 54 = .ok (.iconst 1, 1) := by decide +kernel
theorem dX8_isBetter_55 : decode cX8_isBetter 55 = .ok (.goto 4, 3) := by decide +kernel
theorem dX8_isBetter_58 : decode cX8_isBetter 58 = .ok (.iconst 0, 1) := by decide +kernel
theorem dX8_isBetter_59 : decode cX8_isBetter 59 = .ok (.ireturn, 1) := by decide +kernel
theorem dX9_init_0 : decode cX9_init 0 = .ok (.aload_n 0, 1) := by decide +kernel
theorem dX9_init_1 : decode cX9_init 1 = .ok (.invokespecial 3, 3) := by decide +kernel
theorem dX9_init_4 : decode cX9_init 4 = .ok (.aload_n 0, 1) := by decide +kernel
theorem dX9_init_5 : decode cX9_init 5 = .ok (.iconst 1, 1) := by decide +kernel
theorem dX9_init_6 : decode cX9_init 6 = .ok (.putfield 9, 3) := by decide +kernel
theorem dX9_init_9 : decode cX9_init 9 = .ok (.aload_n 0, 1) := by decide +kernel
theorem dX9_init_10 : decode cX9_init 10 = .ok (.bipush 60, 2) := by decide +kernel
theorem dX9_init_12 : decode cX9_init 12 = .ok (.newarray .int, 2) := by decide +kernel
theorem dX9_init_14 : decode cX9_init 14 = .ok (.putfield 15, 3) := by decide +kernel
theorem dX9_init_17 : decode cX9_init 17 = .ok (.return_, 1) := by decide +kernel
theorem dX9_renew_0 : decode cX9_renew 0 = .ok (.aload_n 0, 1) := by decide +kernel
theorem dX9_renew_1 : decode cX9_renew 1 = .ok (.iconst 0, 1) := by decide +kernel
theorem dX9_renew_2 : decode cX9_renew 2 = .ok (.putfield 9, 3) := by decide +kernel
theorem dX9_renew_5 : decode cX9_renew 5 = .ok (.aload_n 0, 1) := by decide +kernel
theorem dX9_renew_6 : decode cX9_renew 6 = .ok (.iload_n 1, 1) := by decide +kernel
theorem dX9_renew_7 : decode cX9_renew 7 = .ok (.putfield 19, 3) := by decide +kernel
theorem dX9_renew_10 : decode cX9_renew 10 = .ok (.aload_n 0, 1) := by decide +kernel
theorem dX9_renew_11 : decode cX9_renew 11 = .ok (.iload_n 2, 1) := by decide +kernel
theorem dX9_renew_12 : decode cX9_renew 12 = .ok (.putfield 23, 3) := by decide +kernel
theorem dX9_renew_15 : decode cX9_renew 15 = .ok (.aload_n 0, 1) := by decide +kernel
theorem dX9_renew_16 : decode cX9_renew 16 = .ok (.getfield 15, 3) := by decide +kernel
theorem dX9_renew_19 : decode cX9_renew 19 = .ok (.iconst 0, 1) := by decide +kernel
theorem dX9_renew_20 : decode cX9_renew 20 = .ok (.invokestatic 26, 3) := by decide +kernel
theorem dX9_renew_23 : decode cX9_renew 23 = .ok (.return_, 1) := by decide +kernel
theorem dX9_hasItems_0 : decode cX9_hasItems 0 = .ok (.iload_n 1, 1) := by decide +kernel
theorem dX9_hasItems_1 : decode cX9_hasItems 1 = .ok (.ifCond .lt 21, 3) := by decide +kernel
theorem dX9_hasItems_4 : decode cX9_hasItems 4 = .ok (.iload_n 2, 1) := by decide +kernel
theorem dX9_hasItems_5 : decode cX9_hasItems 5 = .ok (.ifCond .lt 17, 3) := by decide +kernel
theorem dX9_hasItems_8 : decode cX9_hasItems 8 = .ok (.iload_n 2, 1) := by decide +kernel
theorem dX9_hasItems_9 : decode cX9_hasItems 9 = .ok (.aload_n 0, 1) := by decide +kernel
theorem dX9_hasItems_10 : decode cX9_hasItems 10 = .ok (.getfield 23, 3) := by decide +kernel
theorem dX9_hasItems_13 : decode cX9_hasItems 13 = .ok (.iload_n 1, 1) := by decide +kernel
theorem dX9_hasItems_14 : decode cX9_hasItems 14 = .ok (.isub, 1) := by decide +kernel
theorem dX9_hasItems_15 : decode cX9_hasItems 15 = .ok (.if_icmp .gt 7, 3) := by decide +kernel
theorem dX9_hasItems_18 : decode cX9_hasItems 18 = .ok (.iconst 1, 1) := by decide +kernel
theorem dX9_hasItems_19 : decode cX9_hasItems 19 = .ok (.goto 4, 3) := by decide +kernel
theorem dX9_hasItems_22 : decode cX9_hasItems 22 = .ok (.iconst 0, 1) := by decide +kernel
theorem dX9_hasItems_23 : decode cX9_hasItems 23 = .ok (.ireturn, 1) := by decide +kernel
theorem dX9_store_0 : decode cX9_store 0 = .ok (.aload_n 0, 1) := by decide +kernel
theorem dX9_store_1 : decode cX9_store 1 = .ok (.getfield 15, 3) := by decide +kernel
theorem dX9_store_4 : decode cX9_store 4 = .ok (.iload_n 1, 1) := by decide +kernel
theorem dX9_store_5 : decode cX9_store 5 = .ok (.aload_n 0, 1) := by decide +kernel
theorem dX9_store_6 : decode cX9_store 6 = .ok (.getfield 19, 3) := by decide +kernel
theorem dX9_store_9 : decode cX9_store 9 = .ok (.ifCond .ne 8, 3) := by decide +kernel
theorem dX9_store_12 : decode cX9_store 12 = .ok (.iload_n 2, 1) := by decide +kernel
theorem dX9_store_13 : decode cX9_store 13 = .ok (.i2b, 1) := by decide +kernel
theorem dX9_store_14 : decode cX9_store 14 = .ok (.goto 17, 3) := by decide +kernel
theorem dX9_store_17 : decode cX9_store 17 = .ok (.aload_n 0, 1) := by decide +kernel
theorem dX9_store_18 : decode cX9_store 18 = .ok (.getfield 19, 3) := by decide +kernel
theorem dX9_store_21 : decode cX9_store 21 = .ok (.iconst 1, 1) := by decide +kernel
theorem dX9_store_22 : decode cX9_store 22 = .ok (.if_icmp .ne 8, 3) := by decide +kernel
theorem dX9_store_25 : decode cX9_store 25 = .ok (.iload_n 2, 1) := by decide +kernel
theorem dX9_store_26 : decode cX9_store 26 = .ok (.i2s, 1) := by decide +kernel
theorem dX9_store_27 : decode cX9_store 27 = .ok (.goto 4, 3) := by decide +kernel
theorem dX9_store_30 : decode cX9_store 30 = .ok (.iload_n 2, 1) := by decide +kernel
theorem dX9_store_31 : decode cX9_store 31 = .ok (.iastore, 1) := by decide +kernel
theorem dX9_store_32 : decode cX9_store 32 = .ok (.return_, 1) := by decide +kernel
theorem dX10_init_0 : decode cX10_init 0 = .ok (.aload_n 0, 1) := by decide +kernel
theorem dX10_init_1 : decode cX10_init 1 = .ok (.invokespecial 3, 3) := by decide +kernel
theorem dX10_init_4 : decode cX10_init 4 = .ok (.aload_n 0, 1) := by decide +kernel
theorem dX10_init_5 : decode cX10_init 5 = .ok (.iconst 5, 1) := by decide +kernel
theorem dX10_init_6 : decode cX10_init 6 = .ok (.newarray .int, 2) := by decide +kernel
theorem dX10_init_8 : decode cX10_init 8 = .ok (.putfield 9, 3) := by decide +kernel
theorem dX10_init_11 : decode cX10_init 11 = .ok (.aload_n 0, 1) := by decide +kernel
theorem dX10_init_12 : decode cX10_init 12 = .ok (.iload_n 1, 1) := by decide +kernel
theorem dX10_init_13 : decode cX10_init 13 = .ok (.putfield 15, 3) := by decide +kernel
theorem dX10_init_16 : decode cX10_init 16 = .ok (.aload_n 0, 1) := by decide +kernel
theorem dX10_init_17 : decode cX10_init 17 = .ok (.iload_n 2, 1) := by decide +kernel
theorem dX10_init_18 : decode cX10_init 18 = .ok (.putfield 19, 3) := by decide +kernel
theorem dX10_init_21 : decode cX10_init 21 = .ok (.aload_n 0, 1) := by decide +kernel
theorem dX10_init_22 : decode cX10_init 22 = .ok (.iload_n 3, 1) := by decide +kernel
theorem dX10_init_23 : decode cX10_init 23 = .ok (.putfield 22, 3) := by decide +kernel
theorem dX10_init_26 : decode cX10_init 26 = .ok (.return_, 1) := by decide +kernel
theorem dX10_couldBe_0 : decode cX10_couldBe 0 = .ok (.aload_n 1, 1) := by decide +kernel
theorem dX10_couldBe_1 : decode cX10_couldBe 1 = .ok (.invokevirtual 25, 3) := by decide +kernel
theorem dX10_couldBe_4 : decode cX10_couldBe 4 = .ok (.iconst 3, 1) := by decide +kernel
theorem dX10_couldBe_5 : decode cX10_couldBe 5 = .ok (.if_icmp .eq 5, 3) := by decide +kernel
theorem dX10_couldBe_8 : decode cX10_couldBe 8 = .ok (.iconst 0, 1) := by decide +kernel
theorem dX10_couldBe_9 : decode cX10_couldBe 9 = .ok (.ireturn, 1) := by decide +kernel
theorem dX10_couldBe_10 : decode cX10_couldBe 10 = .ok (.aload_n 0, 1) := by decide +kernel
theorem dX10_couldBe_11 : decode cX10_couldBe 11 = .ok (.getfield 19, 3) := by decide +kernel
theorem dX10_couldBe_14 : decode cX10_couldBe 14 = .ok (.iconst (-1), 1) := by decide +kernel
theorem dX10_couldBe_15 : decode cX10_couldBe 15 = .ok (.if_icmp .eq 24, 3) := by decide +kernel
theorem dX10_couldBe_18 : decode cX10_couldBe 18 = .ok (.aload_n 0, 1) := by decide +kernel
theorem dX10_couldBe_19 : decode cX10_couldBe 19 = .ok (.getfield 19, 3) := by decide +kernel
theorem dX10_couldBe_22 : decode cX10_couldBe 22 = .ok (.aload_n 1, 1) := by decide +kernel
theorem dX10_couldBe_23 : decode cX10_couldBe 23 = .ok (.getfield 31, 3) := by decide +kernel
theorem dX10_couldBe_26 : decode cX10_couldBe 26 = .ok (.isub, 1) := by decide +kernel
theorem dX10_couldBe_27 : decode cX10_couldBe 27 = .ok (.invokestatic 32, 3) := by decide +kernel
theorem dX10_couldBe_30 : decode cX10_couldBe 30 = .ok (.aload_n 0, 1) := by decide +kernel
theorem dX10_couldBe_31 : decode cX10_couldBe 31 = .ok (.getfield 22, 3) := by decide +kernel
theorem dX10_couldBe_34 : decode cX10_couldBe 34 = .ok (.if_icmp .le 5, 3) := by decide +kernel
theorem dX10_couldBe_37 : decode cX10_couldBe 37 = .ok (.iconst 0, 1) := by decide +kernel
theorem dX10_couldBe_38 : decode cX10_couldBe 38 = .ok (.ireturn, 1) := by decide +kernel
theorem dX10_couldBe_39 : decode cX10_couldBe 39 = .ok (.iconst 0, 1) := by decide +kernel
theorem dX10_couldBe_40 : decode cX10_couldBe 40 = .ok (.istore_n 2, 1) := by decide +kernel
theorem dX10_couldBe_41 : decode cX10_couldBe 41 = .ok (.iload_n 2, 1) := by decide +kernel
theorem dX10_couldBe_42 : decode cX10_couldBe 42 = .ok (.iconst 5, 1) := by decide +kernel
theorem dX10_couldBe_43 : decode cX10_couldBe 43 = .ok (.if_icmp .ge 24, 3) := by decide +kernel
theorem dX10_couldBe_46 : decode cX10_couldBe 46 = .ok (.aload_n 0, 1) := by decide +kernel
theorem dX10_couldBe_47 : decode cX10_couldBe 47 = .ok (.aload_n 1, 1) := by decide +kernel
theorem dX10_couldBe_48 : decode cX10_couldBe 48 = .ok (.iload_n 2, 1) := by decide +kernel
theorem dX10_couldBe_49 : decode cX10_couldBe 49 = .ok (.invokevirtual 38, 3) := by decide +kernel
theorem dX10_couldBe_52 : decode cX10_couldBe 52 = .ok (.aload_n 0, 1) := by decide +kernel
theorem dX10_couldBe_53 : decode cX10_couldBe 53 = .ok (.getfield 15, 3) := by decide +kernel
theorem dX10_couldBe_56 : decode cX10_couldBe 56 = .ok (.if_icmp .le 5, 3) := by decide +kernel
theorem dX10_couldBe_59 : decode cX10_couldBe 59 = .ok (.iconst 0, 1) := by decide +kernel
theorem dX10_couldBe_60 : decode cX10_couldBe 60 = .ok (.ireturn, 1) := by decide +kernel
theorem dX10_couldBe_61 : decode cX10_couldBe 61 = .ok (.iinc 2 1, 3) := by decide +kernel
theorem dX10_couldBe_64 : decode cX10_couldBe 64 = .ok (.goto (-23), 3) := by decide +kernel
theorem dX10_couldBe_67 : decode cX10_couldBe 67 = .ok (.iconst 1, 1) := by decide +kernel
theorem dX10_couldBe_68 : decode cX10_couldBe 68 = .ok (.ireturn, 1) := by decide +kernel
theorem dX10_couldBeBits_0 : decode cX10_couldBeBits 0 = .ok (.iconst 0, 1) := by decide +kernel
theorem dX10_couldBeBits_1 : decode cX10_couldBeBits 1 = .ok (.istore_n 2, 1) := by decide +kernel
theorem dX10_couldBeBits_2 : decode cX10_couldBeBits 2 = .ok (.iconst 0, 1) := by decide +kernel
theorem dX10_couldBeBits_3 : decode cX10_couldBeBits 3 = .ok (.istore_n 3, 1) := by decide +kernel
theorem dX10_couldBeBits_4 : decode cX10_couldBeBits 4 = .ok (.iload_n 3, 1) := by decide +kernel
theorem dX10_couldBeBits_5 : decode cX10_couldBeBits 5 = .ok (.aload_n 1, 1) := by decide +kernel
theorem dX10_couldBeBits_6 : decode cX10_couldBeBits 6 = .ok (.getfield 42, 3) := by decide +kernel
theorem dX10_couldBeBits_9 : decode cX10_couldBeBits 9 = .ok (.if_icmp .ge 28, 3) := by decide +kernel
theorem dX10_couldBeBits_12 : decode cX10_couldBeBits 12 = .ok (.aload_n 0, 1) := by decide +kernel
theorem dX10_couldBeBits_13 : decode cX10_couldBeBits 13 = .ok (.aload_n 1, 1) := by decide +kernel
theorem dX10_couldBeBits_14 : decode cX10_couldBeBits 14 = .ok (.getfield 47, 3) := by decide +kernel
theorem dX10_couldBeBits_17 : decode cX10_couldBeBits 17 = .ok (.iload_n 3, 1) := by decide +kernel
theorem dX10_couldBeBits_18 : decode cX10_couldBeBits 18 = .ok (.aaload, 1) := by decide +kernel
theorem dX10_couldBeBits_19 : decode cX10_couldBeBits 19 = .ok (.invokevirtual 51, 3) := by decide +kernel
theorem dX10_couldBeBits_22 : decode cX10_couldBeBits 22 = .ok (.ifCond .eq 9, 3) := by decide +kernel
theorem dX10_couldBeBits_25 : decode cX10_couldBeBits 25 = .ok (.iload_n 2, 1) := by decide +kernel
theorem dX10_couldBeBits_26 : decode cX10_couldBeBits 26 = .ok (.iconst 1, 1) := by decide +kernel
theorem dX10_couldBeBits_27 : decode cX10_couldBeBits 27 = .ok (.iload_n 3, 1) := by decide +kernel
theorem dX10_couldBeBits_28 : decode cX10_couldBeBits 28 = .ok (.ishl, 1) := by decide +kernel
theorem dX10_couldBeBits_29 : decode cX10_couldBeBits 29 = .ok (.ior, 1) := by decide +kernel
theorem dX10_couldBeBits_30 : decode cX10_couldBeBits 30 = .ok (.istore_n 2, 1) := by decide +kernel
theorem dX10_couldBeBits_31 : decode cX10_couldBeBits 31 = .ok (.iinc 3 1, 3) := by decide +kernel
theorem dX10_couldBeBits_34 : decode cX10_couldBeBits 34 = .ok (.goto (-30), 3) := by decide +kernel
theorem dX10_couldBeBits_37 : decode cX10_couldBeBits 37 = .ok (.iload_n 2, 1) := by decide +kernel
theorem dX10_couldBeBits_38 : decode cX10_couldBeBits 38 = .ok (.ireturn, 1) := by decide +kernel
theorem dX10_difference_0 : decode cX10_difference 0 = .ok (.iconst 0, 1) := by decide +kernel
theorem dX10_difference_1 : decode cX10_difference 1 = .ok (.istore_n 2, 1) := by decide +kernel
theorem dX10_difference_2 : decode cX10_difference 2 = .ok (.iconst 0, 1) := by decide +kernel
theorem dX10_difference_3 : decode cX10_difference 3 = .ok (.istore_n 3, 1) := by decide +kernel
theorem dX10_difference_4 : decode cX10_difference 4 = .ok (.iload_n 3, 1) := by decide +kernel
theorem dX10_difference_5 : decode cX10_difference 5 = .ok (.iconst 5, 1) := by decide +kernel
theorem dX10_difference_6 : decode cX10_difference 6 = .ok (.if_icmp .ge 18, 3) := by decide +kernel
theorem dX10_difference_9 : decode cX10_difference 9 = .ok (.iload_n 2, 1) := by decide +kernel
theorem dX10_difference_10 : decode cX10_difference 10 = .ok (.aload_n 0, 1) := by decide +kernel
theorem dX10_difference_11 : decode cX10_difference 11 = .ok (.aload_n 1, 1) := by decide +kernel
theorem dX10_difference_12 : decode cX10_difference 12 = .ok (.iload_n 3, 1) := by decide +kernel
theorem dX10_difference_13 : decode cX10_difference 13 = .ok (.invokevirtual 38, 3) := by decide +kernel
theorem dX10_difference_16 : decode cX10_difference 16 = .ok (.iadd, 1) := by decide +kernel
theorem dX10_difference_17 : decode cX10_difference 17 = .ok (.istore_n 2, 1) := by decide +kernel
theorem dX10_difference_18 : decode cX10_difference 18 = .ok (.iinc 3 1, 3) := by decide +kernel
theorem dX10_difference_21 : decode cX10_difference 21 = .ok (.goto (-17), 3) := by decide +kernel
theorem dX10_difference_24 : decode cX10_difference 24 = .ok (.iload_n 2, 1) := by decide +kernel
theorem dX10_difference_25 : decode cX10_difference 25 = .ok (.ireturn, 1) := by decide +kernel
theorem dX10_apart_0 : decode cX10_apart 0 = .ok (.aload_n 0, 1) := by decide +kernel
theorem dX10_apart_1 : decode cX10_apart 1 = .ok (.getfield 9, 3) := by decide +kernel
theorem dX10_apart_4 : decode cX10_apart 4 = .ok (.iload_n 2, 1) := by decide +kernel
theorem dX10_apart_5 : decode cX10_apart 5 = .ok (.iaload, 1) := by decide +kernel
theorem dX10_apart_6 : decode cX10_apart 6 = .ok (.iconst (-1), 1) := by decide +kernel
theorem dX10_apart_7 : decode cX10_apart 7 = .ok (.if_icmp .eq 13, 3) := by decide +kernel
theorem dX10_apart_10 : decode cX10_apart 10 = .ok (.aload_n 1, 1) := by decide +kernel
theorem dX10_apart_11 : decode cX10_apart 11 = .ok (.getfield 55, 3) := by decide +kernel
theorem dX10_apart_14 : decode cX10_apart 14 = .ok (.iload_n 2, 1) := by decide +kernel
theorem dX10_apart_15 : decode cX10_apart 15 = .ok (.iaload, 1) := by decide +kernel
theorem dX10_apart_16 : decode cX10_apart 16 = .ok (.iconst (-1), 1) := by decide +kernel
theorem dX10_apart_17 : decode cX10_apart 17 = .ok (.if_icmp .ne 7, 3) := by decide +kernel
theorem dX10_apart_20 : decode cX10_apart 20 = .ok (.iconst 0, 1) := by decide +kernel
theorem dX10_apart_21 : decode cX10_apart 21 = .ok (.goto 19, 3) := by decide +kernel
theorem dX10_apart_24 : decode cX10_apart 24 = .ok (.aload_n 0, 1) := by decide +kernel
theorem dX10_apart_25 : decode cX10_apart 25 = .ok (.getfield 9, 3) := by decide +kernel
theorem dX10_apart_28 : decode cX10_apart 28 = .ok (.iload_n 2, 1) := by decide +kernel
theorem dX10_apart_29 : decode cX10_apart 29 = .ok (.iaload, 1) := by decide +kernel
theorem dX10_apart_30 : decode cX10_apart 30 = .ok (.aload_n 1, 1) := by decide +kernel
theorem dX10_apart_31 : decode cX10_apart 31 = .ok (.getfield 55, 3) := by decide +kernel
theorem dX10_apart_34 : decode cX10_apart 34 = .ok (.iload_n 2, 1) := by decide +kernel
theorem dX10_apart_35 : decode cX10_apart 35 = .ok (.iaload, 1) := by decide +kernel
theorem dX10_apart_36 : decode cX10_apart 36 = .ok (.isub, 1) := by decide +kernel
theorem dX10_apart_37 : decode cX10_apart 37 = .ok (.invokestatic 32, 3) := by decide +kernel
theorem dX10_apart_40 : decode cX10_apart 40 = .ok (.ireturn, 1) := by decide +kernel
theorem dX10_toneToMeasure_0 : decode cX10_toneToMeasure 0 = .ok (.aload_n 0, 1) := by decide +kernel
theorem dX10_toneToMeasure_1 : decode cX10_toneToMeasure 1 = .ok (.aload_n 1, 1) := by decide +kernel
theorem dX10_toneToMeasure_2 : decode cX10_toneToMeasure 2 = .ok (.invokevirtual 56, 3) := by decide +kernel
theorem dX10_toneToMeasure_5 : decode cX10_toneToMeasure 5 = .ok (.istore_n 2, 1) := by decide +kernel
theorem dX10_toneToMeasure_6 : decode cX10_toneToMeasure 6 = .ok (.iconst (-1), 1) := by decide +kernel
theorem dX10_toneToMeasure_7 : decode cX10_toneToMeasure 7 = .ok (.istore_n 3, 1) := by decide +kernel
theorem dX10_toneToMeasure_8 : decode cX10_toneToMeasure 8 = .ok (.iload_n 2, 1) := by decide +kernel
theorem dX10_toneToMeasure_9 : decode cX10_toneToMeasure 9 = .ok (.invokestatic 60, 3) := by decide +kernel
theorem dX10_toneToMeasure_12 : decode cX10_toneToMeasure 12 = .ok (.iconst 2, 1) := by decide +kernel
theorem dX10_toneToMeasure_13 : decode cX10_toneToMeasure 13 = .ok (.if_icmp .ge 5, 3) := by decide +kernel
theorem dX10_toneToMeasure_16 : decode cX10_toneToMeasure 16 = .ok (.iload_n 3, 1) := by decide +kernel
theorem dX10_toneToMeasure_17 : decode cX10_toneToMeasure 17 = .ok (.ireturn, 1) := by decide +kernel
theorem dX10_toneToMeasure_18 : decode cX10_toneToMeasure 18 = .ok (.bipush 21, 2) := by decide +kernel
theorem dX10_toneToMeasure_20 : decode cX10_toneToMeasure 20 = .ok (.istore 4, 2) := by decide +kernel
theorem dX10_toneToMeasure_22 : decode cX10_toneToMeasure 22 = .ok (.iconst 0, 1) := by decide +kernel
theorem dX10_toneToMeasure_23 : decode cX10_toneToMeasure 23 = .ok (.istore 5, 2) := by decide +kernel
theorem dX10_toneToMeasure_25 : decode cX10_toneToMeasure 25 = .ok (.iload 5, 2) := by decide +kernel
theorem dX10_toneToMeasure_27 : decode cX10_toneToMeasure 27 = .ok (.iconst 5, 1) := by decide +kernel
theorem dX10_toneToMeasure_28 : decode cX10_toneToMeasure 28 = .ok (.if_icmp .ge 44, 3) := by decide +kernel
theorem dX10_toneToMeasure_31 : decode cX10_toneToMeasure 31 = .ok (.aload_n 0, 1) := by decide +kernel
theorem dX10_toneToMeasure_32 : decode cX10_toneToMeasure 32 = .ok (.getfield 9, 3) := by decide +kernel
theorem dX10_toneToMeasure_35 : decode cX10_toneToMeasure 35 = .ok (.iload 5, 2) := by decide +kernel
theorem dX10_toneToMeasure_37 : decode cX10_toneToMeasure 37 = .ok (.iaload, 1) := by decide +kernel
theorem dX10_toneToMeasure_38 : decode cX10_toneToMeasure 38 = .ok (.iconst (-1), 1) := by decide +kernel
theorem dX10_toneToMeasure_39 : decode cX10_toneToMeasure 39 = .ok (.if_icmp .ne 27, 3) := by decide +kernel
theorem dX10_toneToMeasure_42 : decode cX10_toneToMeasure 42 = .ok (.aload_n 0, 1) := by decide +kernel
theorem dX10_toneToMeasure_43 : decode cX10_toneToMeasure 43 = .ok (.aload_n 1, 1) := by decide +kernel
theorem dX10_toneToMeasure_44 : decode cX10_toneToMeasure 44 = .ok (.iload_n 2, 1) := by decide +kernel
theorem dX10_toneToMeasure_45 : decode cX10_toneToMeasure 45 = .ok (.iload 5, 2) := by decide +kernel
theorem dX10_toneToMeasure_47 : decode cX10_toneToMeasure 47 = .ok (.invokevirtual 65, 3) := by decide +kernel
theorem dX10_toneToMeasure_50 : decode cX10_toneToMeasure 50 = .ok (.istore 6, 2) := by decide +kernel
theorem dX10_toneToMeasure_52 : decode cX10_toneToMeasure 52 = .ok (.iload 6, 2) := by decide +kernel
theorem dX10_toneToMeasure_54 : decode cX10_toneToMeasure 54 = .ok (.iload 4, 2) := by decide +kernel
theorem dX10_toneToMeasure_56 : decode cX10_toneToMeasure 56 = .ok (.if_icmp .ge 10, 3) := by decide +kernel
theorem dX10_toneToMeasure_59 : decode cX10_toneToMeasure 59 = .ok (.iload 5, 2) := by decide +kernel
theorem dX10_toneToMeasure_61 : decode cX10_toneToMeasure 61 = .ok (.istore_n 3, 1) := by decide +kernel
theorem dX10_toneToMeasure_62 : decode cX10_toneToMeasure 62 = .ok (.iload 6, 2) := by decide +kernel
theorem dX10_toneToMeasure_64 : decode cX10_toneToMeasure 64 = .ok (.istore 4, 2) := by decide +kernel
theorem dX10_toneToMeasure_66 : decode cX10_toneToMeasure 66 = .ok (.iinc 5 1, 3) := by decide +kernel
theorem dX10_toneToMeasure_69 : decode cX10_toneToMeasure 69 = .ok (.goto (-44), 3) := by decide +kernel
theorem dX10_toneToMeasure_72 : decode cX10_toneToMeasure 72 = .ok (.iload_n 3, 1) := by decide +kernel
theorem dX10_toneToMeasure_73 : decode cX10_toneToMeasure 73 = .ok (.ireturn, 1) := by decide +kernel
theorem dX10_greatestPart_0 : decode cX10_greatestPart 0 = .ok (.iconst 0, 1) := by decide +kernel
theorem dX10_greatestPart_1 : decode cX10_greatestPart 1 = .ok (.istore 4, 2) := by decide +kernel
theorem dX10_greatestPart_3 : decode cX10_greatestPart 3 = .ok (.iconst 0, 1) := by decide +kernel
theorem dX10_greatestPart_4 : decode cX10_greatestPart 4 = .ok (.istore 5, 2) := by decide +kernel
theorem dX10_greatestPart_6 : decode cX10_greatestPart 6 = .ok (.iload 5, 2) := by decide +kernel
theorem dX10_greatestPart_8 : decode cX10_greatestPart 8 = .ok (.aload_n 1, 1) := by decide +kernel
theorem dX10_greatestPart_9 : decode cX10_greatestPart 9 = .ok (.getfield 42, 3) := by decide +kernel
theorem dX10_greatestPart_12 : decode cX10_greatestPart 12 = .ok (.if_icmp .ge 102, 3) := by decide +kernel
theorem dX10_greatestPart_15 : decode cX10_greatestPart 15 = .ok (.iload_n 2, 1) := by decide +kernel
theorem dX10_greatestPart_16 : decode cX10_greatestPart 16 = .ok (.iload 5, 2) := by decide +kernel
theorem dX10_greatestPart_18 : decode cX10_greatestPart 18 = .ok (.ishr, 1) := by decide +kernel
theorem dX10_greatestPart_19 : decode cX10_greatestPart 19 = .ok (.iconst 1, 1) := by decide +kernel
theorem dX10_greatestPart_20 : decode cX10_greatestPart 20 = .ok (.iand, 1) := by decide +kernel
theorem dX10_greatestPart_21 : decode cX10_greatestPart 21 = .ok (.iconst 1, 1) := by decide +kernel
theorem dX10_greatestPart_22 : decode cX10_greatestPart 22 = .ok (.if_icmp .ne 86, 3) := by decide +kernel
theorem dX10_greatestPart_25 : decode cX10_greatestPart 25 = .ok (.aload_n 0, 1) := by decide +kernel
theorem dX10_greatestPart_26 : decode cX10_greatestPart 26 = .ok (.aload_n 1, 1) := by decide +kernel
theorem dX10_greatestPart_27 : decode cX10_greatestPart 27 = .ok (.getfield 47, 3) := by decide +kernel
theorem dX10_greatestPart_30 : decode cX10_greatestPart 30 = .ok (.iload 5, 2) := by decide +kernel
theorem dX10_greatestPart_32 : decode cX10_greatestPart 32 = .ok (.aaload, 1) := by decide +kernel
theorem dX10_greatestPart_33 : decode cX10_greatestPart 33 = .ok (.getfield 55, 3) := by decide +kernel
theorem dX10_greatestPart_36 : decode cX10_greatestPart 36 = .ok (.iload_n 3, 1) := by decide +kernel
theorem dX10_greatestPart_37 : decode cX10_greatestPart 37 = .ok (.iaload, 1) := by decide +kernel
theorem dX10_greatestPart_38 : decode cX10_greatestPart 38 = .ok (.invokevirtual 69, 3) := by decide +kernel
theorem dX10_greatestPart_41 : decode cX10_greatestPart 41 = .ok (.istore 6, 2) := by decide +kernel
theorem dX10_greatestPart_43 : decode cX10_greatestPart 43 = .ok (.iconst 0, 1) := by decide +kernel
theorem dX10_greatestPart_44 : decode cX10_greatestPart 44 = .ok (.istore 7, 2) := by decide +kernel
theorem dX10_greatestPart_46 : decode cX10_greatestPart 46 = .ok (.iload 5, 2) := by decide +kernel
theorem dX10_greatestPart_48 : decode cX10_greatestPart 48 = .ok (.istore 8, 2) := by decide +kernel
theorem dX10_greatestPart_50 : decode cX10_greatestPart 50 = .ok (.iload 8, 2) := by decide +kernel
theorem dX10_greatestPart_52 : decode cX10_greatestPart 52 = .ok (.aload_n 1, 1) := by decide +kernel
theorem dX10_greatestPart_53 : decode cX10_greatestPart 53 = .ok (.getfield 42, 3) := by decide +kernel
theorem dX10_greatestPart_56 : decode cX10_greatestPart 56 = .ok (.if_icmp .ge 43, 3) := by decide +kernel
theorem dX10_greatestPart_59 : decode cX10_greatestPart 59 = .ok (.iload_n 2, 1) := by decide +kernel
theorem dX10_greatestPart_60 : decode cX10_greatestPart 60 = .ok (.iload 8, 2) := by decide +kernel
theorem dX10_greatestPart_62 : decode cX10_greatestPart 62 = .ok (.ishr, 1) := by decide +kernel
theorem dX10_greatestPart_63 : decode cX10_greatestPart 63 = .ok (.iconst 1, 1) := by decide +kernel
theorem dX10_greatestPart_64 : decode cX10_greatestPart 64 = .ok (.iand, 1) := by decide +kernel
theorem dX10_greatestPart_65 : decode cX10_greatestPart 65 = .ok (.iconst 1, 1) := by decide +kernel
theorem dX10_greatestPart_66 : decode cX10_greatestPart 66 = .ok (.if_icmp .ne 27, 3) := by decide +kernel
theorem dX10_greatestPart_69 : decode cX10_greatestPart 69 = .ok (.aload_n 0, 1) := by decide +kernel
theorem dX10_greatestPart_70 : decode cX10_greatestPart 70 = .ok (.aload_n 1, 1) := by decide +kernel
theorem dX10_greatestPart_71 : decode cX10_greatestPart 71 = .ok (.getfield 47, 3) := by decide +kernel
theorem dX10_greatestPart_74 : decode cX10_greatestPart 74 = .ok (.iload 8, 2) := by decide +kernel
theorem dX10_greatestPart_76 : decode cX10_greatestPart 76 = .ok (.aaload, 1) := by decide +kernel
theorem dX10_greatestPart_77 : decode cX10_greatestPart 77 = .ok (.getfield 55, 3) := by decide +kernel
theorem dX10_greatestPart_80 : decode cX10_greatestPart 80 = .ok (.iload_n 3, 1) := by decide +kernel
theorem dX10_greatestPart_81 : decode cX10_greatestPart 81 = .ok (.iaload, 1) := by decide +kernel
theorem dX10_greatestPart_82 : decode cX10_greatestPart 82 = .ok (.invokevirtual 69, 3) := by decide +kernel
theorem dX10_greatestPart_85 : decode cX10_greatestPart 85 = .ok (.iload 6, 2) := by decide +kernel
theorem dX10_greatestPart_87 : decode cX10_greatestPart 87 = .ok (.if_icmp .ne 6, 3) := by decide +kernel
theorem dX10_greatestPart_90 : decode cX10_greatestPart 90 = .ok (.iinc 7 1, 3) := by decide +kernel
theorem dX10_greatestPart_93 : decode cX10_greatestPart 93 = .ok (.iinc 8 1, 3) := by decide +kernel
theorem dX10_greatestPart_96 : decode cX10_greatestPart 96 = .ok (.goto (-46), 3) := by decide +kernel
theorem dX10_greatestPart_99 : decode cX10_greatestPart 99 = .ok (.iload 4, 2) := by decide +kernel
theorem dX10_greatestPart_101 : decode cX10_greatestPart 101 = .ok (.iload 7, 2) := by decide +kernel
theorem dX10_greatestPart_103 : decode cX10_greatestPart 103 = .ok (.invokestatic 72, 3) := by decide +kernel
theorem dX10_greatestPart_106 : decode cX10_greatestPart 106 = .ok (.istore 4, 2) := by decide +kernel
theorem dX10_greatestPart_108 : decode cX10_greatestPart 108 = .ok (.iinc 5 1, 3) := by decide +kernel
theorem dX10_greatestPart_111 : decode cX10_greatestPart 111 = .ok (.goto (-105), 3) := by decide +kernel
theorem dX10_greatestPart_114 : decode cX10_greatestPart 114 = .ok (.iload 4, 2) := by decide +kernel
theorem dX10_greatestPart_116 : decode cX10_greatestPart 116 = .ok (.ireturn, 1) := by decide +kernel
theorem dX10_partOf_0 : decode cX10_partOf 0 = .ok (.iconst 2, 1) := by decide +kernel
theorem dX10_partOf_1 : decode cX10_partOf 1 = .ok (.aload_n 0, 1) := by decide +kernel
theorem dX10_partOf_2 : decode cX10_partOf 2 = .ok (.getfield 15, 3) := by decide +kernel
theorem dX10_partOf_5 : decode cX10_partOf 5 = .ok (.imul, 1) := by decide +kernel
theorem dX10_partOf_6 : decode cX10_partOf 6 = .ok (.iconst 1, 1) := by decide +kernel
theorem dX10_partOf_7 : decode cX10_partOf 7 = .ok (.iadd, 1) := by decide +kernel
theorem dX10_partOf_8 : decode cX10_partOf 8 = .ok (.istore_n 2, 1) := by decide +kernel
theorem dX10_partOf_9 : decode cX10_partOf 9 = .ok (.iload_n 1, 1) := by decide +kernel
theorem dX10_partOf_10 : decode cX10_partOf 10 = .ok (.iconst (-1), 1) := by decide +kernel
theorem dX10_partOf_11 : decode cX10_partOf 11 = .ok (.if_icmp .eq 7, 3) := by decide +kernel
theorem dX10_partOf_14 : decode cX10_partOf 14 = .ok (.iload_n 2, 1) := by decide +kernel
theorem dX10_partOf_15 : decode cX10_partOf 15 = .ok (.ifCond .gt 7, 3) := by decide +kernel
theorem dX10_partOf_18 : decode cX10_partOf 18 = .ok (.iconst (-1), 1) := by decide +kernel
theorem dX10_partOf_19 : decode cX10_partOf 19 = .ok (.goto 6, 3) := by decide +kernel
theorem dX10_partOf_22 : decode cX10_partOf 22 = .ok (.iload_n 1, 1) := by decide +kernel
theorem dX10_partOf_23 : decode cX10_partOf 23 = .ok (.iload_n 2, 1) := by decide +kernel
theorem dX10_partOf_24 : decode cX10_partOf 24 = .ok (.idiv, 1) := by decide +kernel
theorem dX10_partOf_25 : decode cX10_partOf 25 = .ok (.ireturn, 1) := by decide +kernel
