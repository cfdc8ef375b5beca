theorem dX0_init_0 : decode cX0_init 0 = .ok (.aload_n 0, 1) := by decide +kernel
theorem dX0_init_1 : decode cX0_init 1 = .ok (.invokespecial 3, 3) := by decide +kernel
theorem dX0_init_4 : decode cX0_init 4 = .ok (.aload_n 0, 1) := by decide +kernel
theorem dX0_init_5 : decode cX0_init 5 = .ok (.iconst (-1), 1) := by decide +kernel
theorem dX0_init_6 : decode cX0_init 6 = .ok (.putfield 9, 3) := by decide +kernel
theorem dX0_init_9 : decode cX0_init 9 = .ok (.aload_n 0, 1) := by decide +kernel
theorem dX0_init_10 : decode cX0_init 10 = .ok (.iload_n 1, 1) := by decide +kernel
theorem dX0_init_11 : decode cX0_init 11 = .ok (.putfield 15, 3) := by decide +kernel
theorem dX0_init_14 : decode cX0_init 14 = .ok (.aload_n 0, 1) := by decide +kernel
theorem dX0_init_15 : decode cX0_init 15 = .ok (.iload_n 2, 1) := by decide +kernel
theorem dX0_init_16 : decode cX0_init 16 = .ok (.putfield 18, 3) := by decide +kernel
theorem dX0_init_19 : decode cX0_init 19 = .ok (.aload_n 0, 1) := by decide +kernel
theorem dX0_init_20 : decode cX0_init 20 = .ok (.iload_n 3, 1) := by decide +kernel
theorem dX0_init_21 : decode cX0_init 21 = .ok (.putfield 21, 3) := by decide +kernel
theorem dX0_init_24 : decode cX0_init 24 = .ok (.aload_n 0, 1) := by decide +kernel
theorem dX0_init_25 : decode cX0_init 25 = .ok (.iload 4, 2) := by decide +kernel
theorem dX0_init_27 : decode cX0_init 27 = .ok (.putfield 24, 3) := by decide +kernel
theorem dX0_init_30 : decode cX0_init 30 = .ok (.return_, 1) := by decide +kernel
theorem dX0_workOut_0 : decode cX0_workOut 0 = .ok (.bipush 12, 2) := by decide +kernel
theorem dX0_workOut_2 : decode cX0_workOut 2 = .ok (.newarray .int, 2) := by decide +kernel
theorem dX0_workOut_4 : decode cX0_workOut 4 = .ok (.astore_n 3, 1) := by decide +kernel
theorem dX0_workOut_5 : decode cX0_workOut 5 = .ok (.iconst 0, 1) := by decide +kernel
theorem dX0_workOut_6 : decode cX0_workOut 6 = .ok (.istore 4, 2) := by decide +kernel
theorem dX0_workOut_8 : decode cX0_workOut 8 = .ok (.iconst 0, 1) := by decide +kernel
theorem dX0_workOut_9 : decode cX0_workOut 9 = .ok (.istore 5, 2) := by decide +kernel
theorem dX0_workOut_11 : decode cX0_workOut 11 = .ok (.iload 5, 2) := by decide +kernel
theorem dX0_workOut_13 : decode cX0_workOut 13 = .ok (.aload_n 1, 1) := by decide +kernel
theorem dX0_workOut_14 : decode cX0_workOut 14 = .ok (.getfield 27, 3) := by decide +kernel
theorem dX0_workOut_17 : decode cX0_workOut 17 = .ok (.if_icmp .ge 35, 3) := by decide +kernel
theorem dX0_workOut_20 : decode cX0_workOut 20 = .ok (.iload 4, 2) := by decide +kernel
theorem dX0_workOut_22 : decode cX0_workOut 22 = .ok (.bipush 12, 2) := by decide +kernel
theorem dX0_workOut_24 : decode cX0_workOut 24 = .ok (.if_icmp .ge 28, 3) := by decide +kernel
theorem dX0_workOut_27 : decode cX0_workOut 27 = .ok (.iload_n 2, 1) := by decide +kernel
theorem dX0_workOut_28 : decode cX0_workOut 28 = .ok (.iload 5, 2) := by decide +kernel
theorem dX0_workOut_30 : decode cX0_workOut 30 = .ok (.ishr, 1) := by decide +kernel
theorem dX0_workOut_31 : decode cX0_workOut 31 = .ok (.iconst 1, 1) := by decide +kernel
theorem dX0_workOut_32 : decode cX0_workOut 32 = .ok (.iand, 1) := by decide +kernel
theorem dX0_workOut_33 : decode cX0_workOut 33 = .ok (.iconst 1, 1) := by decide +kernel
theorem dX0_workOut_34 : decode cX0_workOut 34 = .ok (.if_icmp .ne 12, 3) := by decide +kernel
theorem dX0_workOut_37 : decode cX0_workOut 37 = .ok (.aload_n 3, 1) := by decide +kernel
theorem dX0_workOut_38 : decode cX0_workOut 38 = .ok (.iload 4, 2) := by decide +kernel
theorem dX0_workOut_40 : decode cX0_workOut 40 = .ok (.iload 5, 2) := by decide +kernel
theorem dX0_workOut_42 : decode cX0_workOut 42 = .ok (.iastore, 1) := by decide +kernel
theorem dX0_workOut_43 : decode cX0_workOut 43 = .ok (.iinc 4 1, 3) := by decide +kernel
theorem dX0_workOut_46 : decode cX0_workOut 46 = .ok (.iinc 5 1, 3) := by decide +kernel
theorem dX0_workOut_49 : decode cX0_workOut 49 = .ok (.goto (-38), 3) := by decide +kernel
theorem dX0_workOut_52 : decode cX0_workOut 52 = .ok (.iconst 0, 1) := by decide +kernel
theorem dX0_workOut_53 : decode cX0_workOut 53 = .ok (.istore 5, 2) := by decide +kernel
theorem dX0_workOut_55 : decode cX0_workOut 55 = .ok (.iconst 0, 1) := by decide +kernel
theorem dX0_workOut_56 : decode cX0_workOut 56 = .ok (.istore 6, 2) := by decide +kernel
theorem dX0_workOut_58 : decode cX0_workOut 58 = .ok (.iconst 0, 1) := by decide +kernel
theorem dX0_workOut_59 : decode cX0_workOut 59 = .ok (.istore 7, 2) := by decide +kernel
theorem dX0_workOut_61 : decode cX0_workOut 61 = .ok (.aload_n 0, 1) := by decide +kernel
theorem dX0_workOut_62 : decode cX0_workOut 62 = .ok (.iload 5, 2) := by decide +kernel
theorem dX0_workOut_64 : decode cX0_workOut 64 = .ok (.iload 6, 2) := by decide +kernel
theorem dX0_workOut_66 : decode cX0_workOut 66 = .ok (.iload 7, 2) := by decide +kernel
theorem dX0_workOut_68 : decode cX0_workOut 68 = .ok (.invokevirtual 32, 3) := by decide +kernel
theorem dX0_workOut_71 : decode cX0_workOut 71 = .ok (.iconst 1, 1) := by decide +kernel
theorem dX0_workOut_72 : decode cX0_workOut 72 = .ok (.istore 8, 2) := by decide +kernel
theorem dX0_workOut_74 : decode cX0_workOut 74 = .ok (.iload 8, 2) := by decide +kernel
theorem dX0_workOut_76 : decode cX0_workOut 76 = .ok (.iconst 1, 1) := by decide +kernel
theorem dX0_workOut_77 : decode cX0_workOut 77 = .ok (.iload 4, 2) := by decide +kernel
theorem dX0_workOut_79 : decode cX0_workOut 79 = .ok (.ishl, 1) := by decide +kernel
theorem dX0_workOut_80 : decode cX0_workOut 80 = .ok (.if_icmp .ge 99, 3) := by decide +kernel
theorem dX0_workOut_83 : decode cX0_workOut 83 = .ok (.aload_n 3, 1) := by decide +kernel
theorem dX0_workOut_84 : decode cX0_workOut 84 = .ok (.iload 8, 2) := by decide +kernel
theorem dX0_workOut_86 : decode cX0_workOut 86 = .ok (.invokestatic 36, 3) := by decide +kernel
theorem dX0_workOut_89 : decode cX0_workOut 89 = .ok (.iaload, 1) := by decide +kernel
theorem dX0_workOut_90 : decode cX0_workOut 90 = .ok (.istore 9, 2) := by decide +kernel
theorem dX0_workOut_92 : decode cX0_workOut 92 = .ok (.iload 5, 2) := by decide +kernel
theorem dX0_workOut_94 : decode cX0_workOut 94 = .ok (.iconst 1, 1) := by decide +kernel
theorem dX0_workOut_95 : decode cX0_workOut 95 = .ok (.iload 9, 2) := by decide +kernel
theorem dX0_workOut_97 : decode cX0_workOut 97 = .ok (.ishl, 1) := by decide +kernel
theorem dX0_workOut_98 : decode cX0_workOut 98 = .ok (.ixor, 1) := by decide +kernel
theorem dX0_workOut_99 : decode cX0_workOut 99 = .ok (.istore 5, 2) := by decide +kernel
theorem dX0_workOut_101 : decode cX0_workOut 101 = .ok (.iload 5, 2) := by decide +kernel
theorem dX0_workOut_103 : decode cX0_workOut 103 = .ok (.iload 9, 2) := by decide +kernel
theorem dX0_workOut_105 : decode cX0_workOut 105 = .ok (.ishr, 1) := by decide +kernel
theorem dX0_workOut_106 : decode cX0_workOut 106 = .ok (.iconst 1, 1) := by decide +kernel
theorem dX0_workOut_107 : decode cX0_workOut 107 = .ok (.iand, 1) := by decide +kernel
theorem dX0_workOut_108 : decode cX0_workOut 108 = .ok (.iconst 1, 1) := by decide +kernel
theorem dX0_workOut_109 : decode cX0_workOut 109 = .ok (.if_icmp .ne 16, 3) := by decide +kernel
theorem dX0_workOut_112 : decode cX0_workOut 112 = .ok (.aload_n 1, 1) := by decide +kernel
theorem dX0_workOut_113 : decode cX0_workOut 113 = .ok (.getfield 42, 3) := by decide +kernel
theorem dX0_workOut_116 : decode cX0_workOut 116 = .ok (.iload 9, 2) := by decide +kernel
theorem dX0_workOut_118 : decode cX0_workOut 118 = .ok (.aaload, 1) := by decide +kernel
theorem dX0_workOut_119 : decode cX0_workOut 119 = .ok (.getfield 46, 3) := by decide +kernel
theorem dX0_workOut_122 : decode cX0_workOut 122 = .ok (.goto 14, 3) := by decide +kernel
theorem dX0_workOut_125 : decode cX0_workOut 125 = .ok (.aload_n 1, 1) := by decide +kernel
theorem dX0_workOut_126 : decode cX0_workOut 126 = .ok (.getfield 42, 3) := by decide +kernel
theorem dX0_workOut_129 : decode cX0_workOut 129 = .ok (.iload 9, 2) := by decide +kernel
theorem dX0_workOut_131 : decode cX0_workOut 131 = .ok (.aaload, 1) := by decide +kernel
theorem dX0_workOut_132 : decode cX0_workOut 132 = .ok (.getfield 46, 3) := by decide +kernel
theorem dX0_workOut_135 : decode cX0_workOut 135 = .ok (.ineg, 1) := by decide +kernel
theorem dX0_workOut_136 : decode cX0_workOut 136 = .ok (.istore 10, 2) := by decide +kernel
theorem dX0_workOut_138 : decode cX0_workOut 138 = .ok (.iload 6, 2) := by decide +kernel
theorem dX0_workOut_140 : decode cX0_workOut 140 = .ok (.iload 10, 2) := by decide +kernel
theorem dX0_workOut_142 : decode cX0_workOut 142 = .ok (.iadd, 1) := by decide +kernel
theorem dX0_workOut_143 : decode cX0_workOut 143 = .ok (.istore 6, 2) := by decide +kernel
theorem dX0_workOut_145 : decode cX0_workOut 145 = .ok (.iload 7, 2) := by decide +kernel
theorem dX0_workOut_147 : decode cX0_workOut 147 = .ok (.iload 10, 2) := by decide +kernel
theorem dX0_workOut_149 : decode cX0_workOut 149 = .ok (.aload_n 1, 1) := by decide +kernel
theorem dX0_workOut_150 : decode cX0_workOut 150 = .ok (.getfield 42, 3) := by decide +kernel
theorem dX0_workOut_153 : decode cX0_workOut 153 = .ok (.iload 9, 2) := by decide +kernel
theorem dX0_workOut_155 : decode cX0_workOut 155 = .ok (.aaload, 1) := by decide +kernel
theorem dX0_workOut_156 : decode cX0_workOut 156 = .ok (.getfield 49, 3) := by decide +kernel
theorem dX0_workOut_159 : decode cX0_workOut 159 = .ok (.imul, 1) := by decide +kernel
theorem dX0_workOut_160 : decode cX0_workOut 160 = .ok (.iadd, 1) := by decide +kernel
theorem dX0_workOut_161 : decode cX0_workOut 161 = .ok (.istore 7, 2) := by decide +kernel
theorem dX0_workOut_163 : decode cX0_workOut 163 = .ok (.aload_n 0, 1) := by decide +kernel
theorem dX0_workOut_164 : decode cX0_workOut 164 = .ok (.iload 5, 2) := by decide +kernel
theorem dX0_workOut_166 : decode cX0_workOut 166 = .ok (.iload 6, 2) := by decide +kernel
theorem dX0_workOut_168 : decode cX0_workOut 168 = .ok (.iload 7, 2) := by decide +kernel
theorem dX0_workOut_170 : decode cX0_workOut 170 = .ok (.invokevirtual 32, 3) := by decide +kernel
theorem dX0_workOut_173 : decode cX0_workOut 173 = .ok (.iinc 8 1, 3) := by decide +kernel
theorem dX0_workOut_176 : decode cX0_workOut 176 = .ok (.goto (-102), 3) := by decide +kernel
theorem dX0_workOut_179 : decode cX0_workOut 179 = .ok (.return_, 1) := by decide +kernel
theorem dX0_consider_0 : decode cX0_consider 0 = .ok (.iload_n 2, 1) := by decide +kernel
theorem dX0_consider_1 : decode cX0_consider 1 = .ok (.aload_n 0, 1) := by decide +kernel
theorem dX0_consider_2 : decode cX0_consider 2 = .ok (.getfield 15, 3) := by decide +kernel
theorem dX0_consider_5 : decode cX0_consider 5 = .ok (.isub, 1) := by decide +kernel
theorem dX0_consider_6 : decode cX0_consider 6 = .ok (.invokestatic 52, 3) := by decide +kernel
theorem dX0_consider_9 : decode cX0_consider 9 = .ok (.aload_n 0, 1) := by decide +kernel
theorem dX0_consider_10 : decode cX0_consider 10 = .ok (.getfield 18, 3) := by decide +kernel
theorem dX0_consider_13 : decode cX0_consider 13 = .ok (.if_icmp .le 4, 3) := by decide +kernel
theorem dX0_consider_16 : decode cX0_consider 16 = .ok (.return_, 1) := by decide +kernel
theorem dX0_consider_17 : decode cX0_consider 17 = .ok (.iload_n 3, 1) := by decide +kernel
theorem dX0_consider_18 : decode cX0_consider 18 = .ok (.aload_n 0, 1) := by decide +kernel
theorem dX0_consider_19 : decode cX0_consider 19 = .ok (.getfield 21, 3) := by decide +kernel
theorem dX0_consider_22 : decode cX0_consider 22 = .ok (.iload_n 2, 1) := by decide +kernel
theorem dX0_consider_23 : decode cX0_consider 23 = .ok (.imul, 1) := by decide +kernel
theorem dX0_consider_24 : decode cX0_consider 24 = .ok (.if_icmp .lt 13, 3) := by decide +kernel
theorem dX0_consider_27 : decode cX0_consider 27 = .ok (.iload_n 3, 1) := by decide +kernel
theorem dX0_consider_28 : decode cX0_consider 28 = .ok (.aload_n 0, 1) := by decide +kernel
theorem dX0_consider_29 : decode cX0_consider 29 = .ok (.getfield 24, 3) := by decide +kernel
theorem dX0_consider_32 : decode cX0_consider 32 = .ok (.iload_n 2, 1) := by decide +kernel
theorem dX0_consider_33 : decode cX0_consider 33 = .ok (.imul, 1) := by decide +kernel
theorem dX0_consider_34 : decode cX0_consider 34 = .ok (.if_icmp .le 4, 3) := by decide +kernel
theorem dX0_consider_37 : decode cX0_consider 37 = .ok (.return_, 1) := by decide +kernel
theorem dX0_consider_38 : decode cX0_consider 38 = .ok (.aload_n 0, 1) := by decide +kernel
theorem dX0_consider_39 : decode cX0_consider 39 = .ok (.aload_n 0, 1) := by decide +kernel
theorem dX0_consider_40 : decode cX0_consider 40 = .ok (.getfield 57, 3) := by decide +kernel
theorem dX0_consider_43 : decode cX0_consider 43 = .ok (.ifCond .ne 7, 3) := by decide +kernel
theorem dX0_consider_46 : decode cX0_consider 46 = .ok (.iload_n 1, 1) := by decide +kernel
theorem dX0_consider_47 : decode cX0_consider 47 = .ok (.goto 9, 3) := by decide +kernel
theorem dX0_consider_50 : decode cX0_consider 50 = .ok (.aload_n 0, 1) := by decide +kernel
theorem dX0_consider_51 : decode cX0_consider 51 = .ok (.getfield 60, 3) := by decide +kernel
theorem dX0_consider_54 : decode cX0_consider 54 = .ok (.iload_n 1, 1) := by decide +kernel
theorem dX0_consider_55 : decode cX0_consider 55 = .ok (.iand, 1) := by decide +kernel
theorem dX0_consider_56 : decode cX0_consider 56 = .ok (.putfield 60, 3) := by decide +kernel
theorem dX0_consider_59 : decode cX0_consider 59 = .ok (.aload_n 0, 1) := by decide +kernel
theorem dX0_consider_60 : decode cX0_consider 60 = .ok (.dup, 1) := by decide +kernel
theorem dX0_consider_61 : decode cX0_consider 61 = .ok (.getfield 63, 3) := by decide +kernel
theorem dX0_consider_64 : decode cX0_consider 64 = .ok (.iload_n 1, 1) := by decide +kernel
theorem dX0_consider_65 : decode cX0_consider 65 = .ok (.ior, 1) := by decide +kernel
theorem dX0_consider_66 : decode cX0_consider 66 = .ok (.putfield 63, 3) := by decide +kernel
theorem dX0_consider_69 : decode cX0_consider 69 = .ok (.aload_n 0, 1) := by decide +kernel
theorem dX0_consider_70 : decode cX0_consider 70 = .ok (.aload_n 0, 1) := by decide +kernel
theorem dX0_consider_71 : decode cX0_consider 71 = .ok (.getfield 57, 3) := by decide +kernel
theorem dX0_consider_74 : decode cX0_consider 74 = .ok (.ifCond .ne 7, 3) := by decide +kernel
theorem dX0_consider_77 : decode cX0_consider 77 = .ok (.iload_n 1, 1) := by decide +kernel
theorem dX0_consider_78 : decode cX0_consider 78 = .ok (.goto 11, 3) := by decide +kernel
theorem dX0_consider_81 : decode cX0_consider 81 = .ok (.aload_n 0, 1) := by decide +kernel
theorem dX0_consider_82 : decode cX0_consider 82 = .ok (.getfield 9, 3) := by decide +kernel
theorem dX0_consider_85 : decode cX0_consider 85 = .ok (.iload_n 1, 1) := by decide +kernel
theorem dX0_consider_86 : decode cX0_consider 86 = .ok (.invokestatic 66, 3) := by decide +kernel
theorem dX0_consider_89 : decode cX0_consider 89 = .ok (.putfield 9, 3) := by decide +kernel
theorem dX0_consider_92 : decode cX0_consider 92 = .ok (.aload_n 0, 1) := by decide +kernel
theorem dX0_consider_93 : decode cX0_consider 93 = .ok (.dup, 1) := by decide +kernel
theorem dX0_consider_94 : decode cX0_consider 94 = .ok (.getfield 57, 3) := by decide +kernel
theorem dX0_consider_97 : decode cX0_consider 97 = .ok (.iconst 1, 1) := by decide +kernel
theorem dX0_consider_98 : decode cX0_consider 98 = .ok (.iadd, 1) := by decide +kernel
theorem dX0_consider_99 : decode cX0_consider 99 = .ok (.putfield 57, 3) := by decide +kernel
theorem dX0_consider_102 : decode cX0_consider 102 = .ok (.return_, 1) := by decide +kernel
theorem dX1_init_0 : decode cX1_init 0 = .ok (.aload_n 0, 1) := by decide +kernel
theorem dX1_init_1 : decode cX1_init 1 = .ok (.invokespecial 3, 3) := by decide +kernel
theorem dX1_init_4 : decode cX1_init 4 = .ok (.aload_n 0, 1) := by decide +kernel
theorem dX1_init_5 : decode cX1_init 5 = .ok (.iconst 5, 1) := by decide +kernel
theorem dX1_init_6 : decode cX1_init 6 = .ok (.newarray .int, 2) := by decide +kernel
theorem dX1_init_8 : decode cX1_init 8 = .ok (.dup, 1) := by decide +kernel
theorem dX1_init_9 : decode cX1_init 9 = .ok (.iconst 0, 1) := by decide +kernel
theorem dX1_init_10 : decode cX1_init 10 = .ok (.iconst (-1), 1) := by decide +kernel
theorem dX1_init_11 : decode cX1_init 11 = .ok (.iastore, 1) := by decide +kernel
theorem dX1_init_12 : decode cX1_init 12 = .ok (.dup, 1) := by decide +kernel
theorem dX1_init_13 : decode cX1_init 13 = .ok (.iconst 1, 1) := by decide +kernel
theorem dX1_init_14 : decode cX1_init 14 = .ok (.iconst (-1), 1) := by decide +kernel
theorem dX1_init_15 : decode cX1_init 15 = .ok (.iastore, 1) := by decide +kernel
theorem dX1_init_16 : decode cX1_init 16 = .ok (.dup, 1) := by decide +kernel
theorem dX1_init_17 : decode cX1_init 17 = .ok (.iconst 2, 1) := by decide +kernel
theorem dX1_init_18 : decode cX1_init 18 = .ok (.iconst (-1), 1) := by decide +kernel
theorem dX1_init_19 : decode cX1_init 19 = .ok (.iastore, 1) := by decide +kernel
theorem dX1_init_20 : decode cX1_init 20 = .ok (.dup, 1) := by decide +kernel
theorem dX1_init_21 : decode cX1_init 21 = .ok (.iconst 3, 1) := by decide +kernel
theorem dX1_init_22 : decode cX1_init 22 = .ok (.iconst (-1), 1) := by decide +kernel
theorem dX1_init_23 : decode cX1_init 23 = .ok (.iastore, 1) := by decide +kernel
theorem dX1_init_24 : decode cX1_init 24 = .ok (.dup, 1) := by decide +kernel
theorem dX1_init_25 : decode cX1_init 25 = .ok (.iconst 4, 1) := by decide +kernel
theorem dX1_init_26 : decode cX1_init 26 = .ok (.iconst (-1), 1) := by decide +kernel
theorem dX1_init_27 : decode cX1_init 27 = .ok (.iastore, 1) := by decide +kernel
theorem dX1_init_28 : decode cX1_init 28 = .ok (.putfield 9, 3) := by decide +kernel
theorem dX1_init_31 : decode cX1_init 31 = .ok (.aload_n 0, 1) := by decide +kernel
theorem dX1_init_32 : decode cX1_init 32 = .ok (.bipush 16, 2) := by decide +kernel
theorem dX1_init_34 : decode cX1_init 34 = .ok (.newarray .int, 2) := by decide +kernel
theorem dX1_init_36 : decode cX1_init 36 = .ok (.putfield 15, 3) := by decide +kernel
theorem dX1_init_39 : decode cX1_init 39 = .ok (.aload_n 0, 1) := by decide +kernel
theorem dX1_init_40 : decode cX1_init 40 = .ok (.bipush 16, 2) := by decide +kernel
theorem dX1_init_42 : decode cX1_init 42 = .ok (.newarray .int, 2) := by decide +kernel
theorem dX1_init_44 : decode cX1_init 44 = .ok (.putfield 18, 3) := by decide +kernel
theorem dX1_init_47 : decode cX1_init 47 = .ok (.aload_n 0, 1) := by decide +kernel
theorem dX1_init_48 : decode cX1_init 48 = .ok (.iconst (-1), 1) := by decide +kernel
theorem dX1_init_49 : decode cX1_init 49 = .ok (.putfield 21, 3) := by decide +kernel
theorem dX1_init_52 : decode cX1_init 52 = .ok (.aload_n 0, 1) := by decide +kernel
theorem dX1_init_53 : decode cX1_init 53 = .ok (.iconst 5, 1) := by decide +kernel
theorem dX1_init_54 : decode cX1_init 54 = .ok (.putfield 25, 3) := by decide +kernel
theorem dX1_init_57 : decode cX1_init 57 = .ok (.aload_n 0, 1) := by decide +kernel
theorem dX1_init_58 : decode cX1_init 58 = .ok (.sipush 999, 3) := by decide +kernel
theorem dX1_init_61 : decode cX1_init 61 = .ok (.putfield 28, 3) := by decide +kernel
theorem dX1_init_64 : decode cX1_init 64 = .ok (.aload_n 0, 1) := by decide +kernel
theorem dX1_init_65 : decode cX1_init 65 = .ok (.iload_n 1, 1) := by decide +kernel
theorem dX1_init_66 : decode cX1_init 66 = .ok (.putfield 31, 3) := by decide +kernel
theorem dX1_init_69 : decode cX1_init 69 = .ok (.aload_n 0, 1) := by decide +kernel
theorem dX1_init_70 : decode cX1_init 70 = .ok (.iload_n 2, 1) := by decide +kernel
theorem dX1_init_71 : decode cX1_init 71 = .ok (.putfield 34, 3) := by decide +kernel
theorem dX1_init_74 : decode cX1_init 74 = .ok (.aload_n 0, 1) := by decide +kernel
theorem dX1_init_75 : decode cX1_init 75 = .ok (.iload_n 3, 1) := by decide +kernel
theorem dX1_init_76 : decode cX1_init 76 = .ok (.putfield 37, 3) := by decide +kernel
theorem dX1_init_79 : decode cX1_init 79 = .ok (.aload_n 0, 1) := by decide +kernel
theorem dX1_init_80 : decode cX1_init 80 = .ok (.iload 4, 2) := by decide +kernel
theorem dX1_init_82 : decode cX1_init 82 = .ok (.putfield 40, 3) := by decide +kernel
theorem dX1_init_85 : decode cX1_init 85 = .ok (.return_, 1) := by decide +kernel
theorem dX1_stateNow_0 : decode cX1_stateNow 0 = .ok (.aload_n 0, 1) := by decide +kernel
theorem dX1_stateNow_1 : decode cX1_stateNow 1 = .ok (.getfield 43, 3) := by decide +kernel
theorem dX1_stateNow_4 : decode cX1_stateNow 4 = .ok (.ifCond .ne 7, 3) := by decide +kernel
theorem dX1_stateNow_7 : decode cX1_stateNow 7 = .ok (.iconst 0, 1) := by decide +kernel
theorem dX1_stateNow_8 : decode cX1_stateNow 8 = .ok (.goto 14, 3) := by decide +kernel
theorem dX1_stateNow_11 : decode cX1_stateNow 11 = .ok (.aload_n 0, 1) := by decide +kernel
theorem dX1_stateNow_12 : decode cX1_stateNow 12 = .ok (.getfield 18, 3) := by decide +kernel
theorem dX1_stateNow_15 : decode cX1_stateNow 15 = .ok (.aload_n 0, 1) := by decide +kernel
theorem dX1_stateNow_16 : decode cX1_stateNow 16 = .ok (.getfield 43, 3) := by decide +kernel
theorem dX1_stateNow_19 : decode cX1_stateNow 19 = .ok (.iconst 1, 1) := by decide +kernel
theorem dX1_stateNow_20 : decode cX1_stateNow 20 = .ok (.isub, 1) := by decide +kernel
theorem dX1_stateNow_21 : decode cX1_stateNow 21 = .ok (.iaload, 1) := by decide +kernel
theorem dX1_stateNow_22 : decode cX1_stateNow 22 = .ok (.ireturn, 1) := by decide +kernel
theorem dX1_stateIn_0 : decode cX1_stateIn 0 = .ok (.aload_n 0, 1) := by decide +kernel
theorem dX1_stateIn_1 : decode cX1_stateIn 1 = .ok (.getfield 43, 3) := by decide +kernel
theorem dX1_stateIn_4 : decode cX1_stateIn 4 = .ok (.iconst 1, 1) := by decide +kernel
theorem dX1_stateIn_5 : decode cX1_stateIn 5 = .ok (.isub, 1) := by decide +kernel
theorem dX1_stateIn_6 : decode cX1_stateIn 6 = .ok (.istore_n 2, 1) := by decide +kernel
theorem dX1_stateIn_7 : decode cX1_stateIn 7 = .ok (.iload_n 2, 1) := by decide +kernel
theorem dX1_stateIn_8 : decode cX1_stateIn 8 = .ok (.ifCond .lt 26, 3) := by decide +kernel
theorem dX1_stateIn_11 : decode cX1_stateIn 11 = .ok (.aload_n 0, 1) := by decide +kernel
theorem dX1_stateIn_12 : decode cX1_stateIn 12 = .ok (.getfield 15, 3) := by decide +kernel
theorem dX1_stateIn_15 : decode cX1_stateIn 15 = .ok (.iload_n 2, 1) := by decide +kernel
theorem dX1_stateIn_16 : decode cX1_stateIn 16 = .ok (.iaload, 1) := by decide +kernel
theorem dX1_stateIn_17 : decode cX1_stateIn 17 = .ok (.iload_n 1, 1) := by decide +kernel
theorem dX1_stateIn_18 : decode cX1_stateIn 18 = .ok (.if_icmp .gt 10, 3) := by decide +kernel
theorem dX1_stateIn_21 : decode cX1_stateIn 21 = .ok (.aload_n 0, 1) := by decide +kernel
theorem dX1_stateIn_22 : decode cX1_stateIn 22 = .ok (.getfield 18, 3) := by decide +kernel
theorem dX1_stateIn_25 : decode cX1_stateIn 25 = .ok (.iload_n 2, 1) := by decide +kernel
theorem dX1_stateIn_26 : decode cX1_stateIn 26 = .ok (.iaload, 1) := by decide +kernel
theorem dX1_stateIn_27 : decode cX1_stateIn 27 = .ok (.ireturn, 1) := by decide +kernel
theorem dX1_stateIn_28 : decode cX1_stateIn 28 = .ok (.iinc 2 (-1), 3) := by decide +kernel
theorem dX1_stateIn_31 : decode cX1_stateIn 31 = .ok (.goto (-24), 3) := by decide +kernel
theorem dX1_stateIn_34 : decode cX1_stateIn 34 = .ok (.iconst 0, 1) := by decide +kernel
theorem dX1_stateIn_35 : decode cX1_stateIn 35 = .ok (.ireturn, 1) := by decide +kernel
theorem dX1_change_0 : decode cX1_change 0 = .ok (.aload_n 0, 1) := by decide +kernel
theorem dX1_change_1 : decode cX1_change 1 = .ok (.getfield 43, 3) := by decide +kernel
theorem dX1_change_4 : decode cX1_change 4 = .ok (.bipush 16, 2) := by decide +kernel
theorem dX1_change_6 : decode cX1_change 6 = .ok (.if_icmp .ge 33, 3) := by decide +kernel
theorem dX1_change_9 : decode cX1_change 9 = .ok (.aload_n 0, 1) := by decide +kernel
theorem dX1_change_10 : decode cX1_change 10 = .ok (.getfield 15, 3) := by decide +kernel
theorem dX1_change_13 : decode cX1_change 13 = .ok (.aload_n 0, 1) := by decide +kernel
theorem dX1_change_14 : decode cX1_change 14 = .ok (.getfield 43, 3) := by decide +kernel
theorem dX1_change_17 : decode cX1_change 17 = .ok (.iload_n 2, 1) := by decide +kernel
theorem dX1_change_18 : decode cX1_change 18 = .ok (.iastore, 1) := by decide +kernel
theorem dX1_change_19 : decode cX1_change 19 = .ok (.aload_n 0, 1) := by decide +kernel
theorem dX1_change_20 : decode cX1_change 20 = .ok (.getfield 18, 3) := by decide +kernel
theorem dX1_change_23 : decode cX1_change 23 = .ok (.aload_n 0, 1) := by decide +kernel
theorem dX1_change_24 : decode cX1_change 24 = .ok (.getfield 43, 3) := by decide +kernel
theorem dX1_change_27 : decode cX1_change 27 = .ok (.iload_n 1, 1) := by decide +kernel
theorem dX1_change_28 : decode cX1_change 28 = .ok (.iastore, 1) := by decide +kernel
theorem dX1_change_29 : decode cX1_change 29 = .ok (.aload_n 0, 1) := by decide +kernel
theorem dX1_change_30 : decode cX1_change 30 = .ok (.dup, 1) := by decide +kernel
theorem dX1_change_31 : decode cX1_change 31 = .ok (.getfield 43, 3) := by decide +kernel
theorem dX1_change_34 : decode cX1_change 34 = .ok (.iconst 1, 1) := by decide +kernel
theorem dX1_change_35 : decode cX1_change 35 = .ok (.iadd, 1) := by decide +kernel
theorem dX1_change_36 : decode cX1_change 36 = .ok (.putfield 43, 3) := by decide +kernel
theorem dX1_change_39 : decode cX1_change 39 = .ok (.return_, 1) := by decide +kernel
theorem dX1_isTakenOrInYard_0 : decode cX1_isTakenOrInYard 0 = .ok (.aload_n 0, 1) := by decide +kernel
theorem dX1_isTakenOrInYard_1 : decode cX1_isTakenOrInYard 1 = .ok (.invokevirtual 46, 3) := by decide +kernel
theorem dX1_isTakenOrInYard_4 : decode cX1_isTakenOrInYard 4 = .ok (.istore_n 1, 1) := by decide +kernel
theorem dX1_isTakenOrInYard_5 : decode cX1_isTakenOrInYard 5 = .ok (.iload_n 1, 1) := by decide +kernel
theorem dX1_isTakenOrInYard_6 : decode cX1_isTakenOrInYard 6 = .ok (.iconst 2, 1) := by decide +kernel
theorem dX1_isTakenOrInYard_7 : decode cX1_isTakenOrInYard 7 = .ok (.if_icmp .eq 8, 3) := by decide +kernel
theorem dX1_isTakenOrInYard_10 : decode cX1_isTakenOrInYard 10 = .ok (.iload_n 1, 1) := by decide +kernel
theorem dX1_isTakenOrInYard_11 : decode cX1_isTakenOrInYard 11 = .ok (.iconst 3, 1) := by decide +kernel
theorem dX1_isTakenOrInYard_12 : decode cX1_isTakenOrInYard 12 = .ok (.if_icmp .ne 7, 3) := by decide +kernel
theorem dX1_isTakenOrInYard_15 : decode cX1_isTakenOrInYard 15 = .ok (.iconst 1, 1) := by decide +kernel
theorem dX1_isTakenOrInYard_16 : decode cX1_isTakenOrInYard 16 = .ok (.goto 4, 3) := by decide +kernel
theorem dX1_isTakenOrInYard_19 : decode cX1_isTakenOrInYard 19 = .ok (.iconst 0, 1) := by decide +kernel
theorem dX1_isTakenOrInYard_20 : decode cX1_isTakenOrInYard 20 = .ok (.ireturn, 1) := by decide +kernel
theorem dX1_rings_0 : decode cX1_rings 0 = .ok (.aload_n 0, 1) := by decide +kernel
theorem dX1_rings_1 : decode cX1_rings 1 = .ok (.invokevirtual 46, 3) := by decide +kernel
theorem dX1_rings_4 : decode cX1_rings 4 = .ok (.istore_n 1, 1) := by decide +kernel
theorem dX1_rings_5 : decode cX1_rings 5 = .ok (.iload_n 1, 1) := by decide +kernel
theorem dX1_rings_6 : decode cX1_rings 6 = .ok (.ifCond .eq 8, 3) := by decide +kernel
theorem dX1_rings_9 : decode cX1_rings 9 = .ok (.iload_n 1, 1) := by decide +kernel
theorem dX1_rings_10 : decode cX1_rings 10 = .ok (.iconst 5, 1) := by decide +kernel
theorem dX1_rings_11 : decode cX1_rings 11 = .ok (.if_icmp .ne 17, 3) := by decide +kernel
theorem dX1_rings_14 : decode cX1_rings 14 = .ok (.aload_n 0, 1) := by decide +kernel
theorem dX1_rings_15 : decode cX1_rings 15 = .ok (.getfield 9, 3) := by decide +kernel
theorem dX1_rings_18 : decode cX1_rings 18 = .ok (.iconst 4, 1) := by decide +kernel
theorem dX1_rings_19 : decode cX1_rings 19 = .ok (.iaload, 1) := by decide +kernel
theorem dX1_rings_20 : decode cX1_rings 20 = .ok (.iconst (-1), 1) := by decide +kernel
theorem dX1_rings_21 : decode cX1_rings 21 = .ok (.if_icmp .eq 7, 3) := by decide +kernel
theorem dX1_rings_24 : decode cX1_rings 24 = .ok (.iconst 1, 1) := by decide +kernel
theorem dX1_rings_25 : decode cX1_rings 25 = .ok (.goto 4, 3) := by decide +kernel
theorem dX1_rings_28 : decode cX1_rings 28 = .ok (.iconst 0, 1) := by decide +kernel
theorem dX1_rings_29 : decode cX1_rings 29 = .ok (.ireturn, 1) := by decide +kernel
theorem dX2_init_0 : decode cX2_init 0 = .ok (.aload_n 0, 1) := by decide +kernel
theorem dX2_init_1 : decode cX2_init 1 = .ok (.invokespecial 3, 3) := by decide +kernel
theorem dX2_init_4 : decode cX2_init 4 = .ok (.aload_n 0, 1) := by decide +kernel
theorem dX2_init_5 : decode cX2_init 5 = .ok (.bipush 20, 2) := by decide +kernel
theorem dX2_init_7 : decode cX2_init 7 = .ok (.anewarray 9, 3) := by decide +kernel
theorem dX2_init_10 : decode cX2_init 10 = .ok (.putfield 11, 3) := by decide +kernel
theorem dX2_init_13 : decode cX2_init 13 = .ok (.return_, 1) := by decide +kernel
theorem dX2_has_0 : decode cX2_has 0 = .ok (.iload_n 1, 1) := by decide +kernel
theorem dX2_has_1 : decode cX2_has 1 = .ok (.iconst 0, 1) := by decide +kernel
theorem dX2_has_2 : decode cX2_has 2 = .ok (.aload_n 0, 1) := by decide +kernel
theorem dX2_has_3 : decode cX2_has 3 = .ok (.getfield 17, 3) := by decide +kernel
theorem dX2_has_6 : decode cX2_has 6 = .ok (.iconst 1, 1) := by decide +kernel
theorem dX2_has_7 : decode cX2_has 7 = .ok (.isub, 1) := by decide +kernel
theorem dX2_has_8 : decode cX2_has 8 = .ok (.invokestatic 21, 3) := by decide +kernel
theorem dX2_has_11 : decode cX2_has 11 = .ok (.ireturn, 1) := by decide +kernel
theorem dX2_isFull_0 : decode cX2_isFull 0 = .ok (.aload_n 0, 1) := by decide +kernel
theorem dX2_isFull_1 : decode cX2_isFull 1 = .ok (.getfield 17, 3) := by decide +kernel
theorem dX2_isFull_4 : decode cX2_isFull 4 = .ok (.bipush 20, 2) := by decide +kernel
theorem dX2_isFull_6 : decode cX2_isFull 6 = .ok (.if_icmp .lt 7, 3) := by decide +kernel
theorem dX2_isFull_9 : decode cX2_isFull 9 = .ok (.iconst 1, 1) := by decide +kernel
theorem dX2_isFull_10 : decode cX2_isFull 10 = .ok (.goto 4, 3) := by decide +kernel
theorem dX2_isFull_13 : decode cX2_isFull 13 = .ok (.iconst 0, 1) := by decide +kernel
theorem dX2_isFull_14 : decode cX2_isFull 14 = .ok (.ireturn, 1) := by decide +kernel
theorem dX2_add_0 : decode cX2_add 0 = .ok (.aload_n 0, 1) := by decide +kernel
theorem dX2_add_1 : decode cX2_add 1 = .ok (.invokevirtual 25, 3) := by decide +kernel
theorem dX2_add_4 : decode cX2_add 4 = .ok (.ifCond .eq 6, 3) := by decide +kernel
theorem dX2_add_7 : decode cX2_add 7 = .ok (.bipush (-4), 2) := by decide +kernel
theorem dX2_add_9 : decode cX2_add 9 = .ok (.ireturn, 1) := by decide +kernel
theorem dX2_add_10 : decode cX2_add 10 = .ok (.aload_n 0, 1) := by decide +kernel
theorem dX2_add_11 : decode cX2_add 11 = .ok (.getfield 11, 3) := by decide +kernel
theorem dX2_add_14 : decode cX2_add 14 = .ok (.aload_n 0, 1) := by decide +kernel
theorem dX2_add_15 : decode cX2_add 15 = .ok (.getfield 17, 3) := by decide +kernel
theorem dX2_add_18 : decode cX2_add 18 = .ok (.aload_n 1, 1) := by decide +kernel
theorem dX2_add_19 : decode cX2_add 19 = .ok (.aastore, 1) := by decide +kernel
theorem dX2_add_20 : decode cX2_add 20 = .ok (.aload_n 0, 1) := by decide +kernel
theorem dX2_add_21 : decode cX2_add 21 = .ok (.dup, 1) := by decide +kernel
theorem dX2_add_22 : decode cX2_add 22 = .ok (.getfield 17, 3) := by decide +kernel
theorem dX2_add_25 : decode cX2_add 25 = .ok (.iconst 1, 1) := by decide +kernel
theorem dX2_add_26 : decode cX2_add 26 = .ok (.iadd, 1) := by decide +kernel
theorem dX2_add_27 : decode cX2_add 27 = .ok (.putfield 17, 3) := by decide +kernel
theorem dX2_add_30 : decode cX2_add 30 = .ok (.aload_n 0, 1) := by decide +kernel
theorem dX2_add_31 : decode cX2_add 31 = .ok (.getfield 17, 3) := by decide +kernel
theorem dX2_add_34 : decode cX2_add 34 = .ok (.iconst 1, 1) := by decide +kernel
theorem dX2_add_35 : decode cX2_add 35 = .ok (.isub, 1) := by decide +kernel
theorem dX2_add_36 : decode cX2_add 36 = .ok (.ireturn, 1) := by decide +kernel
theorem dX2_inState_0 : decode cX2_inState 0 = .ok (.iconst 0, 1) := by decide +kernel
theorem dX2_inState_1 : decode cX2_inState 1 = .ok (.istore_n 2, 1) := by decide +kernel
theorem dX2_inState_2 : decode cX2_inState 2 = .ok (.iconst 0, 1) := by decide +kernel
theorem dX2_inState_3 : decode cX2_inState 3 = .ok (.istore_n 3, 1) := by decide +kernel
theorem dX2_inState_4 : decode cX2_inState 4 = .ok (.iload_n 3, 1) := by decide +kernel
theorem dX2_inState_5 : decode cX2_inState 5 = .ok (.aload_n 0, 1) := by decide +kernel
theorem dX2_inState_6 : decode cX2_inState 6 = .ok (.getfield 17, 3) := by decide +kernel
theorem dX2_inState_9 : decode cX2_inState 9 = .ok (.if_icmp .ge 25, 3) := by decide +kernel
theorem dX2_inState_12 : decode cX2_inState 12 = .ok (.aload_n 0, 1) := by decide +kernel
theorem dX2_inState_13 : decode cX2_inState 13 = .ok (.getfield 11, 3) := by decide +kernel
theorem dX2_inState_16 : decode cX2_inState 16 = .ok (.iload_n 3, 1) := by decide +kernel
theorem dX2_inState_17 : decode cX2_inState 17 = .ok (.aaload, 1) := by decide +kernel
theorem dX2_inState_18 : decode cX2_inState 18 = .ok (.invokevirtual 29, 3) := by decide +kernel
theorem dX2_inState_21 : decode cX2_inState 21 = .ok (.iload_n 1, 1) := by decide +kernel
theorem dX2_inState_22 : decode cX2_inState 22 = .ok (.if_icmp .ne 6, 3) := by decide +kernel
theorem dX2_inState_25 : decode cX2_inState 25 = .ok (.iinc 2 1, 3) := by decide +kernel
theorem dX2_inState_28 : decode cX2_inState 28 = .ok (.iinc 3 1, 3) := by decide +kernel
theorem dX2_inState_31 : decode cX2_inState 31 = .ok (.goto (-27), 3) := by decide +kernel
theorem dX2_inState_34 : decode cX2_inState 34 = .ok (.iload_n 2, 1) := by decide +kernel
theorem dX2_inState_35 : decode cX2_inState 35 = .ok (.ireturn, 1) := by decide +kernel
theorem dX2_lightest_0 : decode cX2_lightest 0 = .ok (.iconst 0, 1) := by decide +kernel
theorem dX2_lightest_1 : decode cX2_lightest 1 = .ok (.istore 4, 2) := by decide +kernel
theorem dX2_lightest_3 : decode cX2_lightest 3 = .ok (.iconst 0, 1) := by decide +kernel
theorem dX2_lightest_4 : decode cX2_lightest 4 = .ok (.istore 5, 2) := by decide +kernel
theorem dX2_lightest_6 : decode cX2_lightest 6 = .ok (.iload 5, 2) := by decide +kernel
theorem dX2_lightest_8 : decode cX2_lightest 8 = .ok (.iload_n 3, 1) := by decide +kernel
theorem dX2_lightest_9 : decode cX2_lightest 9 = .ok (.if_icmp .ge 132, 3) := by decide +kernel
theorem dX2_lightest_12 : decode cX2_lightest 12 = .ok (.iconst (-1), 1) := by decide +kernel
theorem dX2_lightest_13 : decode cX2_lightest 13 = .ok (.istore 6, 2) := by decide +kernel
theorem dX2_lightest_15 : decode cX2_lightest 15 = .ok (.iconst 0, 1) := by decide +kernel
theorem dX2_lightest_16 : decode cX2_lightest 16 = .ok (.istore 7, 2) := by decide +kernel
theorem dX2_lightest_18 : decode cX2_lightest 18 = .ok (.iload 7, 2) := by decide +kernel
theorem dX2_lightest_20 : decode cX2_lightest 20 = .ok (.aload_n 0, 1) := by decide +kernel
theorem dX2_lightest_21 : decode cX2_lightest 21 = .ok (.getfield 17, 3) := by decide +kernel
theorem dX2_lightest_24 : decode cX2_lightest 24 = .ok (.if_icmp .ge 93, 3) := by decide +kernel
theorem dX2_lightest_27 : decode cX2_lightest 27 = .ok (.aload_n 0, 1) := by decide +kernel
theorem dX2_lightest_28 : decode cX2_lightest 28 = .ok (.getfield 11, 3) := by decide +kernel
theorem dX2_lightest_31 : decode cX2_lightest 31 = .ok (.iload 7, 2) := by decide +kernel
theorem dX2_lightest_33 : decode cX2_lightest 33 = .ok (.aaload, 1) := by decide +kernel
theorem dX2_lightest_34 : decode cX2_lightest 34 = .ok (.getfield 33, 3) := by decide +kernel
theorem dX2_lightest_37 : decode cX2_lightest 37 = .ok (.iload_n 1, 1) := by decide +kernel
theorem dX2_lightest_38 : decode cX2_lightest 38 = .ok (.if_icmp .ne 32, 3) := by decide +kernel
theorem dX2_lightest_41 : decode cX2_lightest 41 = .ok (.iload 4, 2) := by decide +kernel
theorem dX2_lightest_43 : decode cX2_lightest 43 = .ok (.iload 7, 2) := by decide +kernel
theorem dX2_lightest_45 : decode cX2_lightest 45 = .ok (.ishr, 1) := by decide +kernel
theorem dX2_lightest_46 : decode cX2_lightest 46 = .ok (.iconst 1, 1) := by decide +kernel
theorem dX2_lightest_47 : decode cX2_lightest 47 = .ok (.iand, 1) := by decide +kernel
theorem dX2_lightest_48 : decode cX2_lightest 48 = .ok (.ifCond .ne 22, 3) := by decide +kernel
theorem dX2_lightest_51 : decode cX2_lightest 51 = .ok (.aload_n 0, 1) := by decide +kernel
theorem dX2_lightest_52 : decode cX2_lightest 52 = .ok (.getfield 11, 3) := by decide +kernel
theorem dX2_lightest_55 : decode cX2_lightest 55 = .ok (.iload 7, 2) := by decide +kernel
theorem dX2_lightest_57 : decode cX2_lightest 57 = .ok (.aaload, 1) := by decide +kernel
theorem dX2_lightest_58 : decode cX2_lightest 58 = .ok (.iload_n 2, 1) := by decide +kernel
theorem dX2_lightest_59 : decode cX2_lightest 59 = .ok (.invokevirtual 36, 3) := by decide +kernel
theorem dX2_lightest_62 : decode cX2_lightest 62 = .ok (.iconst 4, 1) := by decide +kernel
theorem dX2_lightest_63 : decode cX2_lightest 63 = .ok (.if_icmp .eq 7, 3) := by decide +kernel
theorem dX2_lightest_66 : decode cX2_lightest 66 = .ok (.iconst 1, 1) := by decide +kernel
theorem dX2_lightest_67 : decode cX2_lightest 67 = .ok (.goto 4, 3) := by decide +kernel
theorem dX2_lightest_70 : decode cX2_lightest 70 = .ok (.iconst 0, 1) := by decide +kernel
theorem dX2_lightest_71 : decode cX2_lightest 71 = .ok (.istore 8, 2) := by decide +kernel
theorem dX2_lightest_73 : decode cX2_lightest 73 = .ok (.iload 8, 2) := by decide +kernel
theorem dX2_lightest_75 : decode cX2_lightest 75 = .ok (.ifCond .eq 36, 3) := by decide +kernel
theorem dX2_lightest_78 : decode cX2_lightest 78 = .ok (.iload 6, 2) := by decide +kernel
theorem dX2_lightest_80 : decode cX2_lightest 80 = .ok (.iconst (-1), 1) := by decide +kernel
theorem dX2_lightest_81 : decode cX2_lightest 81 = .ok (.if_icmp .eq 26, 3) := by decide +kernel
theorem dX2_lightest_84 : decode cX2_lightest 84 = .ok (.aload_n 0, 1) := by decide +kernel
theorem dX2_lightest_85 : decode cX2_lightest 85 = .ok (.getfield 11, 3) := by decide +kernel
theorem dX2_lightest_88 : decode cX2_lightest 88 = .ok (.iload 7, 2) := by decide +kernel
theorem dX2_lightest_90 : decode cX2_lightest 90 = .ok (.aaload, 1) := by decide +kernel
theorem dX2_lightest_91 : decode cX2_lightest 91 = .ok (.getfield 40, 3) := by decide +kernel
theorem dX2_lightest_94 : decode cX2_lightest 94 = .ok (.aload_n 0, 1) := by decide +kernel
theorem dX2_lightest_95 : decode cX2_lightest 95 = .ok (.getfield 11, 3) := by decide +kernel
theorem dX2_lightest_98 : decode cX2_lightest 98 = .ok (.iload 6, 2) := by decide +kernel
theorem dX2_lightest_100 : decode cX2_lightest 100 = .ok (.aaload, 1) := by decide +kernel
theorem dX2_lightest_101 : decode cX2_lightest 101 = .ok (.getfield 40, 3) := by decide +kernel
theorem dX2_lightest_104 : decode cX2_lightest 104 = .ok (.if_icmp .ge 7, 3) := by decide +kernel
theorem dX2_lightest_107 : decode cX2_lightest 107 = .ok (.iload 7, 2) := by decide +kernel
theorem dX2_lightest_109 : decode cX2_lightest 109 = .ok (.istore 6, 2) := by decide +kernel
theorem dX2_lightest_111 : decode cX2_lightest 111 = .ok (.iinc 7 1, 3) := by decide +kernel
theorem dX2_lightest_114 : decode cX2_lightest 114 = .ok (.goto (-96), 3) := by decide +kernel
theorem dX2_lightest_117 : decode cX2_lightest 117 = .ok (.iload 6, 2) := by decide +kernel
theorem dX2_lightest_119 : decode cX2_lightest 119 = .ok (.iconst (-1), 1) := by decide +kernel
theorem dX2_lightest_120 : decode cX2_lightest 120 = .ok (.if_icmp .ne 6, 3) := by decide +kernel
theorem dX2_lightest_123 : decode cX2_lightest 123 = .ok (.goto 18, 3) := by decide +kernel
theorem dX2_lightest_126 : decode cX2_lightest 126 = .ok (.iload 4, 2) := by decide +kernel
theorem dX2_lightest_128 : decode cX2_lightest 128 = .ok (.iconst 1, 1) := by decide +kernel
theorem dX2_lightest_129 : decode cX2_lightest 129 = .ok (.iload 6, 2) := by decide +kernel
theorem dX2_lightest_131 : decode cX2_lightest 131 = .ok (.ishl, 1) := by decide +kernel
theorem dX2_lightest_132 : decode cX2_lightest 132 = .ok (.ior, 1) := by decide +kernel
theorem dX2_lightest_133 : decode cX2_lightest 133 = .ok (.istore 4, 2) := by decide +kernel
theorem dX2_lightest_135 : decode cX2_lightest 135 = .ok (.iinc 5 1, 3) := by decide +kernel
theorem dX2_lightest_138 : decode cX2_lightest 138 = .ok (.goto (-132), 3) := by decide +kernel
theorem dX2_lightest_141 : decode cX2_lightest 141 = .ok (.iload 4, 2) := by decide +kernel
theorem dX2_lightest_143 : decode cX2_lightest 143 = .ok (.ireturn, 1) := by decide +kernel
theorem dX3_init_0 : decode cX3_init 0 = .ok (.aload_n 0, 1) := by decide +kernel
theorem dX3_init_1 : decode cX3_init 1 = .ok (.invokespecial 3, 3) := by decide +kernel
theorem dX3_init_4 : decode cX3_init 4 = .ok (.aload_n 0, 1) := by decide +kernel
theorem dX3_init_5 : decode cX3_init 5 = .ok (.bipush 30, 2) := by decide +kernel
theorem dX3_init_7 : decode cX3_init 7 = .ok (.newarray .int, 2) := by decide +kernel
theorem dX3_init_9 : decode cX3_init 9 = .ok (.putfield 9, 3) := by decide +kernel
theorem dX3_init_12 : decode cX3_init 12 = .ok (.aload_n 0, 1) := by decide +kernel
theorem dX3_init_13 : decode cX3_init 13 = .ok (.bipush 30, 2) := by decide +kernel
theorem dX3_init_15 : decode cX3_init 15 = .ok (.newarray .int, 2) := by decide +kernel
theorem dX3_init_17 : decode cX3_init 17 = .ok (.putfield 15, 3) := by decide +kernel
theorem dX3_init_20 : decode cX3_init 20 = .ok (.aload_n 0, 1) := by decide +kernel
theorem dX3_init_21 : decode cX3_init 21 = .ok (.bipush 30, 2) := by decide +kernel
theorem dX3_init_23 : decode cX3_init 23 = .ok (.newarray .int, 2) := by decide +kernel
theorem dX3_init_25 : decode cX3_init 25 = .ok (.putfield 18, 3) := by decide +kernel
theorem dX3_init_28 : decode cX3_init 28 = .ok (.aload_n 0, 1) := by decide +kernel
theorem dX3_init_29 : decode cX3_init 29 = .ok (.bipush 30, 2) := by decide +kernel
theorem dX3_init_31 : decode cX3_init 31 = .ok (.newarray .int, 2) := by decide +kernel
theorem dX3_init_33 : decode cX3_init 33 = .ok (.putfield 21, 3) := by decide +kernel
theorem dX3_init_36 : decode cX3_init 36 = .ok (.aload_n 0, 1) := by decide +kernel
theorem dX3_init_37 : decode cX3_init 37 = .ok (.iconst 5, 1) := by decide +kernel
theorem dX3_init_38 : decode cX3_init 38 = .ok (.newarray .int, 2) := by decide +kernel
theorem dX3_init_40 : decode cX3_init 40 = .ok (.dup, 1) := by decide +kernel
theorem dX3_init_41 : decode cX3_init 41 = .ok (.iconst 0, 1) := by decide +kernel
theorem dX3_init_42 : decode cX3_init 42 = .ok (.iconst 0, 1) := by decide +kernel
theorem dX3_init_43 : decode cX3_init 43 = .ok (.iastore, 1) := by decide +kernel
theorem dX3_init_44 : decode cX3_init 44 = .ok (.dup, 1) := by decide +kernel
theorem dX3_init_45 : decode cX3_init 45 = .ok (.iconst 1, 1) := by decide +kernel
theorem dX3_init_46 : decode cX3_init 46 = .ok (.iconst 1, 1) := by decide +kernel
theorem dX3_init_47 : decode cX3_init 47 = .ok (.iastore, 1) := by decide +kernel
theorem dX3_init_48 : decode cX3_init 48 = .ok (.dup, 1) := by decide +kernel
theorem dX3_init_49 : decode cX3_init 49 = .ok (.iconst 2, 1) := by decide +kernel
theorem dX3_init_50 : decode cX3_init 50 = .ok (.iconst 2, 1) := by decide +kernel
theorem dX3_init_51 : decode cX3_init 51 = .ok (.iastore, 1) := by decide +kernel
theorem dX3_init_52 : decode cX3_init 52 = .ok (.dup, 1) := by decide +kernel
theorem dX3_init_53 : decode cX3_init 53 = .ok (.iconst 3, 1) := by decide +kernel
theorem dX3_init_54 : decode cX3_init 54 = .ok (.iconst 3, 1) := by decide +kernel
theorem dX3_init_55 : decode cX3_init 55 = .ok (.iastore, 1) := by decide +kernel
theorem dX3_init_56 : decode cX3_init 56 = .ok (.dup, 1) := by decide +kernel
theorem dX3_init_57 : decode cX3_init 57 = .ok (.iconst 4, 1) := by decide +kernel
theorem dX3_init_58 : decode cX3_init 58 = .ok (.iconst 4, 1) := by decide +kernel
theorem dX3_init_59 : decode cX3_init 59 = .ok (.iastore, 1) := by decide +kernel
theorem dX3_init_60 : decode cX3_init 60 = .ok (.putfield 24, 3) := by decide +kernel
theorem dX3_init_63 : decode cX3_init 63 = .ok (.return_, 1) := by decide +kernel
theorem dX3_add_0 : decode cX3_add 0 = .ok (.aload_n 0, 1) := by decide +kernel
theorem dX3_add_1 : decode cX3_add 1 = .ok (.getfield 27, 3) := by decide +kernel
theorem dX3_add_4 : decode cX3_add 4 = .ok (.bipush 30, 2) := by decide +kernel
theorem dX3_add_6 : decode cX3_add 6 = .ok (.if_icmp .ge 54, 3) := by decide +kernel
theorem dX3_add_9 : decode cX3_add 9 = .ok (.aload_n 0, 1) := by decide +kernel
theorem dX3_add_10 : decode cX3_add 10 = .ok (.getfield 9, 3) := by decide +kernel
theorem dX3_add_13 : decode cX3_add 13 = .ok (.aload_n 0, 1) := by decide +kernel
theorem dX3_add_14 : decode cX3_add 14 = .ok (.getfield 27, 3) := by decide +kernel
theorem dX3_add_17 : decode cX3_add 17 = .ok (.iload_n 1, 1) := by decide +kernel
theorem dX3_add_18 : decode cX3_add 18 = .ok (.iastore, 1) := by decide +kernel
theorem dX3_add_19 : decode cX3_add 19 = .ok (.aload_n 0, 1) := by decide +kernel
theorem dX3_add_20 : decode cX3_add 20 = .ok (.getfield 15, 3) := by decide +kernel
theorem dX3_add_23 : decode cX3_add 23 = .ok (.aload_n 0, 1) := by decide +kernel
theorem dX3_add_24 : decode cX3_add 24 = .ok (.getfield 27, 3) := by decide +kernel
theorem dX3_add_27 : decode cX3_add 27 = .ok (.iload_n 2, 1) := by decide +kernel
theorem dX3_add_28 : decode cX3_add 28 = .ok (.iastore, 1) := by decide +kernel
theorem dX3_add_29 : decode cX3_add 29 = .ok (.aload_n 0, 1) := by decide +kernel
theorem dX3_add_30 : decode cX3_add 30 = .ok (.getfield 18, 3) := by decide +kernel
theorem dX3_add_33 : decode cX3_add 33 = .ok (.aload_n 0, 1) := by decide +kernel
theorem dX3_add_34 : decode cX3_add 34 = .ok (.getfield 27, 3) := by decide +kernel
theorem dX3_add_37 : decode cX3_add 37 = .ok (.iload_n 3, 1) := by decide +kernel
theorem dX3_add_38 : decode cX3_add 38 = .ok (.iastore, 1) := by decide +kernel
theorem dX3_add_39 : decode cX3_add 39 = .ok (.aload_n 0, 1) := by decide +kernel
theorem dX3_add_40 : decode cX3_add 40 = .ok (.getfield 21, 3) := by decide +kernel
theorem dX3_add_43 : decode cX3_add 43 = .ok (.aload_n 0, 1) := by decide +kernel
theorem dX3_add_44 : decode cX3_add 44 = .ok (.getfield 27, 3) := by decide +kernel
theorem dX3_add_47 : decode cX3_add 47 = .ok (.iload 4, 2) := by decide +kernel
theorem dX3_add_49 : decode cX3_add 49 = .ok (.iastore, 1) := by decide +kernel
theorem dX3_add_50 : decode cX3_add 50 = .ok (.aload_n 0, 1) := by decide +kernel
theorem dX3_add_51 : decode cX3_add 51 = .ok (.dup, 1) := by decide +kernel
theorem dX3_add_52 : decode cX3_add 52 = .ok (.getfield 27, 3) := by decide +kernel
theorem dX3_add_55 : decode cX3_add 55 = .ok (.iconst 1, 1) := by decide +kernel
theorem dX3_add_56 : decode cX3_add 56 = .ok (.iadd, 1) := by decide +kernel
theorem dX3_add_57 : decode cX3_add 57 = .ok (.putfield 27, 3) := by decide +kernel
theorem dX3_add_60 : decode cX3_add 60 = .ok (.return_, 1) := by decide +kernel
theorem dX3_isTold_0 : decode cX3_isTold 0 = .ok (.aload_n 0, 1) := by decide +kernel
theorem dX3_isTold_1 : decode cX3_isTold 1 = .ok (.getfield 15, 3) := by decide +kernel
theorem dX3_isTold_4 : decode cX3_isTold 4 = .ok (.iload_n 1, 1) := by decide +kernel
theorem dX3_isTold_5 : decode cX3_isTold 5 = .ok (.iaload, 1) := by decide +kernel
theorem dX3_isTold_6 : decode cX3_isTold 6 = .ok (.iload_n 2, 1) := by decide +kernel
theorem dX3_isTold_7 : decode cX3_isTold 7 = .ok (.if_icmp .ne 17, 3) := by decide +kernel
theorem dX3_isTold_10 : decode cX3_isTold 10 = .ok (.aload_n 0, 1) := by decide +kernel
theorem dX3_isTold_11 : decode cX3_isTold 11 = .ok (.getfield 21, 3) := by decide +kernel
theorem dX3_isTold_14 : decode cX3_isTold 14 = .ok (.iload_n 1, 1) := by decide +kernel
theorem dX3_isTold_15 : decode cX3_isTold 15 = .ok (.iaload, 1) := by decide +kernel
theorem dX3_isTold_16 : decode cX3_isTold 16 = .ok (.iload_n 3, 1) := by decide +kernel
theorem dX3_isTold_17 : decode cX3_isTold 17 = .ok (.if_icmp .gt 7, 3) := by decide +kernel
theorem dX3_isTold_20 : decode cX3_isTold 20 = .ok (.iconst 1, 1) := by decide +kernel
theorem dX3_isTold_21 : decode cX3_isTold 21 = .ok (.goto 4, 3) := by decide +kernel
theorem dX3_isTold_24 : decode cX3_isTold 24 = .ok (.iconst 0, 1) := by decide +kernel
theorem dX3_isTold_25 : decode cX3_isTold 25 = .ok (.ireturn, 1) := by decide +kernel
theorem dX3_ownerOf_0 : decode cX3_ownerOf 0 = .ok (.bipush (-3), 2) := by decide +kernel
theorem dX3_ownerOf_2 : decode cX3_ownerOf 2 = .ok (.istore_n 3, 1) := by decide +kernel
theorem dX3_ownerOf_3 : decode cX3_ownerOf 3 = .ok (.bipush 10, 2) := by decide +kernel
theorem dX3_ownerOf_5 : decode cX3_ownerOf 5 = .ok (.istore 4, 2) := by decide +kernel
theorem dX3_ownerOf_7 : decode cX3_ownerOf 7 = .ok (.iconst 0, 1) := by decide +kernel
theorem dX3_ownerOf_8 : decode cX3_ownerOf 8 = .ok (.istore 5, 2) := by decide +kernel
theorem dX3_ownerOf_10 : decode cX3_ownerOf 10 = .ok (.iload 5, 2) := by decide +kernel
theorem dX3_ownerOf_12 : decode cX3_ownerOf 12 = .ok (.aload_n 0, 1) := by decide +kernel
theorem dX3_ownerOf_13 : decode cX3_ownerOf 13 = .ok (.getfield 27, 3) := by decide +kernel
theorem dX3_ownerOf_16 : decode cX3_ownerOf 16 = .ok (.if_icmp .ge 76, 3) := by decide +kernel
theorem dX3_ownerOf_19 : decode cX3_ownerOf 19 = .ok (.aload_n 0, 1) := by decide +kernel
theorem dX3_ownerOf_20 : decode cX3_ownerOf 20 = .ok (.iload 5, 2) := by decide +kernel
theorem dX3_ownerOf_22 : decode cX3_ownerOf 22 = .ok (.iload_n 1, 1) := by decide +kernel
theorem dX3_ownerOf_23 : decode cX3_ownerOf 23 = .ok (.iload_n 2, 1) := by decide +kernel
theorem dX3_ownerOf_24 : decode cX3_ownerOf 24 = .ok (.invokevirtual 31, 3) := by decide +kernel
theorem dX3_ownerOf_27 : decode cX3_ownerOf 27 = .ok (.ifCond .eq 59, 3) := by decide +kernel
theorem dX3_ownerOf_30 : decode cX3_ownerOf 30 = .ok (.aload_n 0, 1) := by decide +kernel
theorem dX3_ownerOf_31 : decode cX3_ownerOf 31 = .ok (.getfield 24, 3) := by decide +kernel
theorem dX3_ownerOf_34 : decode cX3_ownerOf 34 = .ok (.aload_n 0, 1) := by decide +kernel
theorem dX3_ownerOf_35 : decode cX3_ownerOf 35 = .ok (.getfield 18, 3) := by decide +kernel
theorem dX3_ownerOf_38 : decode cX3_ownerOf 38 = .ok (.iload 5, 2) := by decide +kernel
theorem dX3_ownerOf_40 : decode cX3_ownerOf 40 = .ok (.iaload, 1) := by decide +kernel
theorem dX3_ownerOf_41 : decode cX3_ownerOf 41 = .ok (.iaload, 1) := by decide +kernel
theorem dX3_ownerOf_42 : decode cX3_ownerOf 42 = .ok (.istore 6, 2) := by decide +kernel
theorem dX3_ownerOf_44 : decode cX3_ownerOf 44 = .ok (.iload 6, 2) := by decide +kernel
theorem dX3_ownerOf_46 : decode cX3_ownerOf 46 = .ok (.iload 4, 2) := by decide +kernel
theorem dX3_ownerOf_48 : decode cX3_ownerOf 48 = .ok (.if_icmp .ge 18, 3) := by decide +kernel
theorem dX3_ownerOf_51 : decode cX3_ownerOf 51 = .ok (.iload 6, 2) := by decide +kernel
theorem dX3_ownerOf_53 : decode cX3_ownerOf 53 = .ok (.istore 4, 2) := by decide +kernel
theorem dX3_ownerOf_55 : decode cX3_ownerOf 55 = .ok (.aload_n 0, 1) := by decide +kernel
theorem dX3_ownerOf_56 : decode cX3_ownerOf 56 = .ok (.getfield 9, 3) := by decide +kernel
theorem dX3_ownerOf_59 : decode cX3_ownerOf 59 = .ok (.iload 5, 2) := by decide +kernel
theorem dX3_ownerOf_61 : decode cX3_ownerOf 61 = .ok (.iaload, 1) := by decide +kernel
theorem dX3_ownerOf_62 : decode cX3_ownerOf 62 = .ok (.istore_n 3, 1) := by decide +kernel
theorem dX3_ownerOf_63 : decode cX3_ownerOf 63 = .ok (.goto 23, 3) := by decide +kernel
theorem dX3_ownerOf_66 : decode cX3_ownerOf 66 = .ok (.iload 6, 2) := by decide +kernel
theorem dX3_ownerOf_68 : decode cX3_ownerOf 68 = .ok (.iload 4, 2) := by decide +kernel
theorem dX3_ownerOf_70 : decode cX3_ownerOf 70 = .ok (.if_icmp .ne 16, 3) := by decide +kernel
theorem dX3_ownerOf_73 : decode cX3_ownerOf 73 = .ok (.iload_n 3, 1) := by decide +kernel
theorem dX3_ownerOf_74 : decode cX3_ownerOf 74 = .ok (.aload_n 0, 1) := by decide +kernel
theorem dX3_ownerOf_75 : decode cX3_ownerOf 75 = .ok (.getfield 9, 3) := by decide +kernel
theorem dX3_ownerOf_78 : decode cX3_ownerOf 78 = .ok (.iload 5, 2) := by decide +kernel
theorem dX3_ownerOf_80 : decode cX3_ownerOf 80 = .ok (.iaload, 1) := by decide +kernel
theorem dX3_ownerOf_81 : decode cX3_ownerOf 81 = .ok (.if_icmp .eq 5, 3) := by decide +kernel
theorem dX3_ownerOf_84 : decode cX3_ownerOf 84 = .ok (.iconst (-1), 1) := by decide +kernel
theorem dX3_ownerOf_85 : decode cX3_ownerOf 85 = .ok (.istore_n 3, 1) := by decide +kernel
theorem dX3_ownerOf_86 : decode cX3_ownerOf 86 = .ok (.iinc 5 1, 3) := by decide +kernel
theorem dX3_ownerOf_89 : decode cX3_ownerOf 89 = .ok (.goto (-79), 3) := by decide +kernel
theorem dX3_ownerOf_92 : decode cX3_ownerOf 92 = .ok (.iload_n 3, 1) := by decide +kernel
theorem dX3_ownerOf_93 : decode cX3_ownerOf 93 = .ok (.ireturn, 1) := by decide +kernel
theorem dX3_landCount_0 : decode cX3_landCount 0 = .ok (.iconst 0, 1) := by decide +kernel
theorem dX3_landCount_1 : decode cX3_landCount 1 = .ok (.istore 4, 2) := by decide +kernel
theorem dX3_landCount_3 : decode cX3_landCount 3 = .ok (.iconst 0, 1) := by decide +kernel
theorem dX3_landCount_4 : decode cX3_landCount 4 = .ok (.istore 5, 2) := by decide +kernel
theorem dX3_landCount_6 : decode cX3_landCount 6 = .ok (.iload 5, 2) := by decide +kernel
theorem dX3_landCount_8 : decode cX3_landCount 8 = .ok (.aload_n 0, 1) := by decide +kernel
theorem dX3_landCount_9 : decode cX3_landCount 9 = .ok (.getfield 27, 3) := by decide +kernel
theorem dX3_landCount_12 : decode cX3_landCount 12 = .ok (.if_icmp .ge 36, 3) := by decide +kernel
theorem dX3_landCount_15 : decode cX3_landCount 15 = .ok (.aload_n 0, 1) := by decide +kernel
theorem dX3_landCount_16 : decode cX3_landCount 16 = .ok (.iload 5, 2) := by decide +kernel
theorem dX3_landCount_18 : decode cX3_landCount 18 = .ok (.iload_n 1, 1) := by decide +kernel
theorem dX3_landCount_19 : decode cX3_landCount 19 = .ok (.iload_n 2, 1) := by decide +kernel
theorem dX3_landCount_20 : decode cX3_landCount 20 = .ok (.invokevirtual 31, 3) := by decide +kernel
theorem dX3_landCount_23 : decode cX3_landCount 23 = .ok (.ifCond .eq 19, 3) := by decide +kernel
theorem dX3_landCount_26 : decode cX3_landCount 26 = .ok (.iload 4, 2) := by decide +kernel
theorem dX3_landCount_28 : decode cX3_landCount 28 = .ok (.iconst 1, 1) := by decide +kernel
theorem dX3_landCount_29 : decode cX3_landCount 29 = .ok (.aload_n 3, 1) := by decide +kernel
theorem dX3_landCount_30 : decode cX3_landCount 30 = .ok (.aload_n 0, 1) := by decide +kernel
theorem dX3_landCount_31 : decode cX3_landCount 31 = .ok (.getfield 9, 3) := by decide +kernel
theorem dX3_landCount_34 : decode cX3_landCount 34 = .ok (.iload 5, 2) := by decide +kernel
theorem dX3_landCount_36 : decode cX3_landCount 36 = .ok (.iaload, 1) := by decide +kernel
theorem dX3_landCount_37 : decode cX3_landCount 37 = .ok (.iaload, 1) := by decide +kernel
theorem dX3_landCount_38 : decode cX3_landCount 38 = .ok (.ishl, 1) := by decide +kernel
theorem dX3_landCount_39 : decode cX3_landCount 39 = .ok (.ior, 1) := by decide +kernel
theorem dX3_landCount_40 : decode cX3_landCount 40 = .ok (.istore 4, 2) := by decide +kernel
theorem dX3_landCount_42 : decode cX3_landCount 42 = .ok (.iinc 5 1, 3) := by decide +kernel
theorem dX3_landCount_45 : decode cX3_landCount 45 = .ok (.goto (-39), 3) := by decide +kernel
theorem dX3_landCount_48 : decode cX3_landCount 48 = .ok (.iload 4, 2) := by decide +kernel
theorem dX3_landCount_50 : decode cX3_landCount 50 = .ok (.invokestatic 35, 3) := by decide +kernel
theorem dX3_landCount_53 : decode cX3_landCount 53 = .ok (.ireturn, 1) := by decide +kernel
theorem dX4_init_0 : decode cX4_init 0 = .ok (.aload_n 0, 1) := by decide +kernel
theorem dX4_init_1 : decode cX4_init 1 = .ok (.invokespecial 3, 3) := by decide +kernel
theorem dX4_init_4 : decode cX4_init 4 = .ok (.aload_n 0, 1) := by decide +kernel
theorem dX4_init_5 : decode cX4_init 5 = .ok (.bipush 100, 2) := by decide +kernel
theorem dX4_init_7 : decode cX4_init 7 = .ok (.newarray .char, 2) := by decide +kernel
theorem dX4_init_9 : decode cX4_init 9 = .ok (.putfield 9, 3) := by decide +kernel
theorem dX4_init_12 : decode cX4_init 12 = .ok (.aload_n 0, 1) := by decide +kernel
theorem dX4_init_13 : decode cX4_init 13 = .ok (.iconst (-1), 1) := by decide +kernel
theorem dX4_init_14 : decode cX4_init 14 = .ok (.putfield 15, 3) := by decide +kernel
theorem dX4_init_17 : decode cX4_init 17 = .ok (.aload_n 0, 1) := by decide +kernel
theorem dX4_init_18 : decode cX4_init 18 = .ok (.bipush 26, 2) := by decide +kernel
theorem dX4_init_20 : decode cX4_init 20 = .ok (.newarray .int, 2) := by decide +kernel
theorem dX4_init_22 : decode cX4_init 22 = .ok (.putfield 19, 3) := by decide +kernel
theorem dX4_init_25 : decode cX4_init 25 = .ok (.aload_n 0, 1) := by decide +kernel
theorem dX4_init_26 : decode cX4_init 26 = .ok (.bipush 26, 2) := by decide +kernel
theorem dX4_init_28 : decode cX4_init 28 = .ok (.newarray .int, 2) := by decide +kernel
theorem dX4_init_30 : decode cX4_init 30 = .ok (.putfield 23, 3) := by decide +kernel
theorem dX4_init_33 : decode cX4_init 33 = .ok (.aload_n 0, 1) := by decide +kernel
theorem dX4_init_34 : decode cX4_init 34 = .ok (.bipush 26, 2) := by decide +kernel
theorem dX4_init_36 : decode cX4_init 36 = .ok (.newarray .int, 2) := by decide +kernel
theorem dX4_init_38 : decode cX4_init 38 = .ok (.putfield 26, 3) := by decide +kernel
theorem dX4_init_41 : decode cX4_init 41 = .ok (.aload_n 0, 1) := by decide +kernel
theorem dX4_init_42 : decode cX4_init 42 = .ok (.bipush 26, 2) := by decide +kernel
theorem dX4_init_44 : decode cX4_init 44 = .ok (.newarray .int, 2) := by decide +kernel
theorem dX4_init_46 : decode cX4_init 46 = .ok (.putfield 29, 3) := by decide +kernel
theorem dX4_init_49 : decode cX4_init 49 = .ok (.aload_n 0, 1) := by decide +kernel
theorem dX4_init_50 : decode cX4_init 50 = .ok (.iconst 4, 1) := by decide +kernel
theorem dX4_init_51 : decode cX4_init 51 = .ok (.newarray .int, 2) := by decide +kernel
theorem dX4_init_53 : decode cX4_init 53 = .ok (.putfield 32, 3) := by decide +kernel
theorem dX4_init_56 : decode cX4_init 56 = .ok (.return_, 1) := by decide +kernel
theorem dX4_append_0 : decode cX4_append 0 = .ok (.aload_n 0, 1) := by decide +kernel
theorem dX4_append_1 : decode cX4_append 1 = .ok (.getfield 35, 3) := by decide +kernel
theorem dX4_append_4 : decode cX4_append 4 = .ok (.bipush 100, 2) := by decide +kernel
theorem dX4_append_6 : decode cX4_append 6 = .ok (.if_icmp .ge 28, 3) := by decide +kernel
theorem dX4_append_9 : decode cX4_append 9 = .ok (.aload_n 0, 1) := by decide +kernel
theorem dX4_append_10 : decode cX4_append 10 = .ok (.getfield 9, 3) := by decide +kernel
theorem dX4_append_13 : decode cX4_append 13 = .ok (.aload_n 0, 1) := by decide +kernel
theorem dX4_append_14 : decode cX4_append 14 = .ok (.getfield 35, 3) := by decide +kernel
theorem dX4_append_17 : decode cX4_append 17 = .ok (.iload_n 1, 1) := by decide +kernel
theorem dX4_append_18 : decode cX4_append 18 = .ok (.i2c, 1) := by decide +kernel
theorem dX4_append_19 : decode cX4_append 19 = .ok (.castore, 1) := by decide +kernel
theorem dX4_append_20 : decode cX4_append 20 = .ok (.aload_n 0, 1) := by decide +kernel
theorem dX4_append_21 : decode cX4_append 21 = .ok (.dup, 1) := by decide +kernel
theorem dX4_append_22 : decode cX4_append 22 = .ok (.getfield 35, 3) := by decide +kernel
theorem dX4_append_25 : decode cX4_append 25 = .ok (.iconst 1, 1) := by decide +kernel
theorem dX4_append_26 : decode cX4_append 26 = .ok (.iadd, 1) := by decide +kernel
theorem dX4_append_27 : decode cX4_append 27 = .ok (.putfield 35, 3) := by decide +kernel
theorem dX4_append_30 : decode cX4_append 30 = .ok (.aload_n 0, 1) := by decide +kernel
theorem dX4_append_31 : decode cX4_append 31 = .ok (.invokevirtual 38, 3) := by decide +kernel
theorem dX4_append_34 : decode cX4_append 34 = .ok (.return_, 1) := by decide +kernel
theorem dX4_clear_0 : decode cX4_clear 0 = .ok (.aload_n 0, 1) := by decide +kernel
theorem dX4_clear_1 : decode cX4_clear 1 = .ok (.iconst 0, 1) := by decide +kernel
theorem dX4_clear_2 : decode cX4_clear 2 = .ok (.putfield 35, 3) := by decide +kernel
theorem dX4_clear_5 : decode cX4_clear 5 = .ok (.aload_n 0, 1) := by decide +kernel
theorem dX4_clear_6 : decode cX4_clear 6 = .ok (.invokevirtual 38, 3) := by decide +kernel
theorem dX4_clear_9 : decode cX4_clear 9 = .ok (.return_, 1) := by decide +kernel
theorem dX4_inForceIn_0 : decode cX4_inForceIn 0 = .ok (.aload_n 0, 1) := by decide +kernel
theorem dX4_inForceIn_1 : decode cX4_inForceIn 1 = .ok (.getfield 32, 3) := by decide +kernel
theorem dX4_inForceIn_4 : decode cX4_inForceIn 4 = .ok (.iconst (-1), 1) := by decide +kernel
theorem dX4_inForceIn_5 : decode cX4_inForceIn 5 = .ok (.invokestatic 41, 3) := by decide +kernel
theorem dX4_inForceIn_8 : decode cX4_inForceIn 8 = .ok (.iconst 0, 1) := by decide +kernel
theorem dX4_inForceIn_9 : decode cX4_inForceIn 9 = .ok (.istore_n 2, 1) := by decide +kernel
theorem dX4_inForceIn_10 : decode cX4_inForceIn 10 = .ok (.iload_n 2, 1) := by decide +kernel
theorem dX4_inForceIn_11 : decode cX4_inForceIn 11 = .ok (.aload_n 0, 1) := by decide +kernel
theorem dX4_inForceIn_12 : decode cX4_inForceIn 12 = .ok (.getfield 47, 3) := by decide +kernel
theorem dX4_inForceIn_15 : decode cX4_inForceIn 15 = .ok (.if_icmp .ge 31, 3) := by decide +kernel
theorem dX4_inForceIn_18 : decode cX4_inForceIn 18 = .ok (.aload_n 0, 1) := by decide +kernel
theorem dX4_inForceIn_19 : decode cX4_inForceIn 19 = .ok (.getfield 29, 3) := by decide +kernel
theorem dX4_inForceIn_22 : decode cX4_inForceIn 22 = .ok (.iload_n 2, 1) := by decide +kernel
theorem dX4_inForceIn_23 : decode cX4_inForceIn 23 = .ok (.iaload, 1) := by decide +kernel
theorem dX4_inForceIn_24 : decode cX4_inForceIn 24 = .ok (.iload_n 1, 1) := by decide +kernel
theorem dX4_inForceIn_25 : decode cX4_inForceIn 25 = .ok (.if_icmp .gt 15, 3) := by decide +kernel
theorem dX4_inForceIn_28 : decode cX4_inForceIn 28 = .ok (.aload_n 0, 1) := by decide +kernel
theorem dX4_inForceIn_29 : decode cX4_inForceIn 29 = .ok (.getfield 32, 3) := by decide +kernel
theorem dX4_inForceIn_32 : decode cX4_inForceIn 32 = .ok (.aload_n 0, 1) := by decide +kernel
theorem dX4_inForceIn_33 : decode cX4_inForceIn 33 = .ok (.getfield 19, 3) := by decide +kernel
theorem dX4_inForceIn_36 : decode cX4_inForceIn 36 = .ok (.iload_n 2, 1) := by decide +kernel
theorem dX4_inForceIn_37 : decode cX4_inForceIn 37 = .ok (.iaload, 1) := by decide +kernel
theorem dX4_inForceIn_38 : decode cX4_inForceIn 38 = .ok (.iload_n 2, 1) := by decide +kernel
theorem dX4_inForceIn_39 : decode cX4_inForceIn 39 = .ok (.iastore, 1) := by decide +kernel
theorem dX4_inForceIn_40 : decode cX4_inForceIn 40 = .ok (.iinc 2 1, 3) := by decide +kernel
theorem dX4_inForceIn_43 : decode cX4_inForceIn 43 = .ok (.goto (-33), 3) := by decide +kernel
theorem dX4_inForceIn_46 : decode cX4_inForceIn 46 = .ok (.aload_n 0, 1) := by decide +kernel
theorem dX4_inForceIn_47 : decode cX4_inForceIn 47 = .ok (.getfield 32, 3) := by decide +kernel
theorem dX4_inForceIn_50 : decode cX4_inForceIn 50 = .ok (.areturn, 1) := by decide +kernel
theorem dX4_partFor_0 : decode cX4_partFor 0 = .ok (.iconst 0, 1) := by decide +kernel
theorem dX4_partFor_1 : decode cX4_partFor 1 = .ok (.istore_n 3, 1) := by decide +kernel
theorem dX4_partFor_2 : decode cX4_partFor 2 = .ok (.iload_n 3, 1) := by decide +kernel
theorem dX4_partFor_3 : decode cX4_partFor 3 = .ok (.iconst 3, 1) := by decide +kernel
theorem dX4_partFor_4 : decode cX4_partFor 4 = .ok (.if_icmp .ge 51, 3) := by decide +kernel
theorem dX4_partFor_7 : decode cX4_partFor 7 = .ok (.aload_n 2, 1) := by decide +kernel
theorem dX4_partFor_8 : decode cX4_partFor 8 = .ok (.iload_n 3, 1) := by decide +kernel
theorem dX4_partFor_9 : decode cX4_partFor 9 = .ok (.iaload, 1) := by decide +kernel
theorem dX4_partFor_10 : decode cX4_partFor 10 = .ok (.istore 4, 2) := by decide +kernel
theorem dX4_partFor_12 : decode cX4_partFor 12 = .ok (.iload 4, 2) := by decide +kernel
theorem dX4_partFor_14 : decode cX4_partFor 14 = .ok (.iconst (-1), 1) := by decide +kernel
theorem dX4_partFor_15 : decode cX4_partFor 15 = .ok (.if_icmp .eq 34, 3) := by decide +kernel
theorem dX4_partFor_18 : decode cX4_partFor 18 = .ok (.aload_n 1, 1) := by decide +kernel
theorem dX4_partFor_19 : decode cX4_partFor 19 = .ok (.getfield 50, 3) := by decide +kernel
theorem dX4_partFor_22 : decode cX4_partFor 22 = .ok (.aload_n 0, 1) := by decide +kernel
theorem dX4_partFor_23 : decode cX4_partFor 23 = .ok (.getfield 23, 3) := by decide +kernel
theorem dX4_partFor_26 : decode cX4_partFor 26 = .ok (.iload 4, 2) := by decide +kernel
theorem dX4_partFor_28 : decode cX4_partFor 28 = .ok (.iaload, 1) := by decide +kernel
theorem dX4_partFor_29 : decode cX4_partFor 29 = .ok (.if_icmp .lt 20, 3) := by decide +kernel
theorem dX4_partFor_32 : decode cX4_partFor 32 = .ok (.aload_n 1, 1) := by decide +kernel
theorem dX4_partFor_33 : decode cX4_partFor 33 = .ok (.getfield 55, 3) := by decide +kernel
theorem dX4_partFor_36 : decode cX4_partFor 36 = .ok (.aload_n 0, 1) := by decide +kernel
theorem dX4_partFor_37 : decode cX4_partFor 37 = .ok (.getfield 26, 3) := by decide +kernel
theorem dX4_partFor_40 : decode cX4_partFor 40 = .ok (.iload 4, 2) := by decide +kernel
theorem dX4_partFor_42 : decode cX4_partFor 42 = .ok (.iaload, 1) := by decide +kernel
theorem dX4_partFor_43 : decode cX4_partFor 43 = .ok (.if_icmp .lt 6, 3) := by decide +kernel
theorem dX4_partFor_46 : decode cX4_partFor 46 = .ok (.iload 4, 2) := by decide +kernel
theorem dX4_partFor_48 : decode cX4_partFor 48 = .ok (.ireturn, 1) := by decide +kernel
theorem dX4_partFor_49 : decode cX4_partFor 49 = .ok (.iinc 3 1, 3) := by decide +kernel
theorem dX4_partFor_52 : decode cX4_partFor 52 = .ok (.goto (-50), 3) := by decide +kernel
theorem dX4_partFor_55 : decode cX4_partFor 55 = .ok (.iconst (-1), 1) := by decide +kernel
theorem dX4_partFor_56 : decode cX4_partFor 56 = .ok (.ireturn, 1) := by decide +kernel
theorem dX4_letterOf_0 : decode cX4_letterOf 0 = .ok (.aload_n 0, 1) := by decide +kernel
theorem dX4_letterOf_1 : decode cX4_letterOf 1 = .ok (.aload_n 1, 1) := by decide +kernel
theorem dX4_letterOf_2 : decode cX4_letterOf 2 = .ok (.aload_n 2, 1) := by decide +kernel
theorem dX4_letterOf_3 : decode cX4_letterOf 3 = .ok (.invokevirtual 58, 3) := by decide +kernel
theorem dX4_letterOf_6 : decode cX4_letterOf 6 = .ok (.istore_n 3, 1) := by decide +kernel
theorem dX4_letterOf_7 : decode cX4_letterOf 7 = .ok (.iload_n 3, 1) := by decide +kernel
theorem dX4_letterOf_8 : decode cX4_letterOf 8 = .ok (.iconst (-1), 1) := by decide +kernel
theorem dX4_letterOf_9 : decode cX4_letterOf 9 = .ok (.if_icmp .ne 7, 3) := by decide +kernel
theorem dX4_letterOf_12 : decode cX4_letterOf 12 = .ok (.iconst 3, 1) := by decide +kernel
theorem dX4_letterOf_13 : decode cX4_letterOf 13 = .ok (.goto 9, 3) := by decide +kernel
theorem dX4_letterOf_16 : decode cX4_letterOf 16 = .ok (.aload_n 0, 1) := by decide +kernel
theorem dX4_letterOf_17 : decode cX4_letterOf 17 = .ok (.getfield 19, 3) := by decide +kernel
theorem dX4_letterOf_20 : decode cX4_letterOf 20 = .ok (.iload_n 3, 1) := by decide +kernel
theorem dX4_letterOf_21 : decode cX4_letterOf 21 = .ok (.iaload, 1) := by decide +kernel
theorem dX4_letterOf_22 : decode cX4_letterOf 22 = .ok (.ireturn, 1) := by decide +kernel
theorem dX4_keptNumber_0 : decode cX4_keptNumber 0 = .ok (.aload_n 1, 1) := by decide +kernel
theorem dX4_keptNumber_1 : decode cX4_keptNumber 1 = .ok (.iconst 3, 1) := by decide +kernel
theorem dX4_keptNumber_2 : decode cX4_keptNumber 2 = .ok (.iaload, 1) := by decide +kernel
theorem dX4_keptNumber_3 : decode cX4_keptNumber 3 = .ok (.istore_n 2, 1) := by decide +kernel
theorem dX4_keptNumber_4 : decode cX4_keptNumber 4 = .ok (.iload_n 2, 1) := by decide +kernel
theorem dX4_keptNumber_5 : decode cX4_keptNumber 5 = .ok (.iconst (-1), 1) := by decide +kernel
theorem dX4_keptNumber_6 : decode cX4_keptNumber 6 = .ok (.if_icmp .ne 7, 3) := by decide +kernel
theorem dX4_keptNumber_9 : decode cX4_keptNumber 9 = .ok (.iconst 1, 1) := by decide +kernel
theorem dX4_keptNumber_10 : decode cX4_keptNumber 10 = .ok (.goto 9, 3) := by decide +kernel
theorem dX4_keptNumber_13 : decode cX4_keptNumber 13 = .ok (.aload_n 0, 1) := by decide +kernel
theorem dX4_keptNumber_14 : decode cX4_keptNumber 14 = .ok (.getfield 26, 3) := by decide +kernel
theorem dX4_keptNumber_17 : decode cX4_keptNumber 17 = .ok (.iload_n 2, 1) := by decide +kernel
theorem dX4_keptNumber_18 : decode cX4_keptNumber 18 = .ok (.iaload, 1) := by decide +kernel
theorem dX4_keptNumber_19 : decode cX4_keptNumber 19 = .ok (.ireturn, 1) := by decide +kernel
theorem dX4_readAll_0 : decode cX4_readAll 0 = .ok (.aload_n 0, 1) := by decide +kernel
theorem dX4_readAll_1 : decode cX4_readAll 1 = .ok (.iconst 0, 1) := by decide +kernel
theorem dX4_readAll_2 : decode cX4_readAll 2 = .ok (.putfield 62, 3) := by decide +kernel
theorem dX4_readAll_5 : decode cX4_readAll 5 = .ok (.aload_n 0, 1) := by decide +kernel
theorem dX4_readAll_6 : decode cX4_readAll 6 = .ok (.iconst 0, 1) := by decide +kernel
theorem dX4_readAll_7 : decode cX4_readAll 7 = .ok (.putfield 47, 3) := by decide +kernel
theorem dX4_readAll_10 : decode cX4_readAll 10 = .ok (.aload_n 0, 1) := by decide +kernel
theorem dX4_readAll_11 : decode cX4_readAll 11 = .ok (.iconst (-1), 1) := by decide +kernel
theorem dX4_readAll_12 : decode cX4_readAll 12 = .ok (.putfield 15, 3) := by decide +kernel
theorem dX4_readAll_15 : decode cX4_readAll 15 = .ok (.aload_n 0, 1) := by decide +kernel
theorem dX4_readAll_16 : decode cX4_readAll 16 = .ok (.getfield 35, 3) := by decide +kernel
theorem dX4_readAll_19 : decode cX4_readAll 19 = .ok (.ifCond .eq 10, 3) := by decide +kernel
theorem dX4_readAll_22 : decode cX4_readAll 22 = .ok (.aload_n 0, 1) := by decide +kernel
theorem dX4_readAll_23 : decode cX4_readAll 23 = .ok (.invokevirtual 65, 3) := by decide +kernel
theorem dX4_readAll_26 : decode cX4_readAll 26 = .ok (.ifCond .eq 7, 3) := by decide +kernel
theorem dX4_readAll_29 : decode cX4_readAll 29 = .ok (.iconst 1, 1) := by decide +kernel
theorem dX4_readAll_30 : decode cX4_readAll 30 = .ok (.goto 4, 3) := by decide +kernel
theorem dX4_readAll_33 : decode cX4_readAll 33 = .ok (.iconst 0, 1) := by decide +kernel
theorem dX4_readAll_34 : decode cX4_readAll 34 = .ok (.istore_n 1, 1) := by decide +kernel
theorem dX4_readAll_35 : decode cX4_readAll 35 = .ok (.iconst 0, 1) := by decide +kernel
theorem dX4_readAll_36 : decode cX4_readAll 36 = .ok (.istore_n 2, 1) := by decide +kernel
theorem dX4_readAll_37 : decode cX4_readAll 37 = .ok (.iload_n 2, 1) := by decide +kernel
theorem dX4_readAll_38 : decode cX4_readAll 38 = .ok (.bipush 100, 2) := by decide +kernel
theorem dX4_readAll_40 : decode cX4_readAll 40 = .ok (.if_icmp .ge 46, 3) := by decide +kernel
theorem dX4_readAll_43 : decode cX4_readAll 43 = .ok (.iload_n 1, 1) := by decide +kernel
theorem dX4_readAll_44 : decode cX4_readAll 44 = .ok (.ifCond .eq 42, 3) := by decide +kernel
theorem dX4_readAll_47 : decode cX4_readAll 47 = .ok (.aload_n 0, 1) := by decide +kernel
theorem dX4_readAll_48 : decode cX4_readAll 48 = .ok (.getfield 62, 3) := by decide +kernel
theorem dX4_readAll_51 : decode cX4_readAll 51 = .ok (.aload_n 0, 1) := by decide +kernel
theorem dX4_readAll_52 : decode cX4_readAll 52 = .ok (.getfield 35, 3) := by decide +kernel
theorem dX4_readAll_55 : decode cX4_readAll 55 = .ok (.if_icmp .ge 31, 3) := by decide +kernel
theorem dX4_readAll_58 : decode cX4_readAll 58 = .ok (.aload_n 0, 1) := by decide +kernel
theorem dX4_readAll_59 : decode cX4_readAll 59 = .ok (.bipush 59, 2) := by decide +kernel
theorem dX4_readAll_61 : decode cX4_readAll 61 = .ok (.invokevirtual 69, 3) := by decide +kernel
theorem dX4_readAll_64 : decode cX4_readAll 64 = .ok (.ifCond .eq 14, 3) := by decide +kernel
theorem dX4_readAll_67 : decode cX4_readAll 67 = .ok (.aload_n 0, 1) := by decide +kernel
theorem dX4_readAll_68 : decode cX4_readAll 68 = .ok (.invokevirtual 65, 3) := by decide +kernel
theorem dX4_readAll_71 : decode cX4_readAll 71 = .ok (.ifCond .eq 7, 3) := by decide +kernel
theorem dX4_readAll_74 : decode cX4_readAll 74 = .ok (.iconst 1, 1) := by decide +kernel
theorem dX4_readAll_75 : decode cX4_readAll 75 = .ok (.goto 4, 3) := by decide +kernel
theorem dX4_readAll_78 : decode cX4_readAll 78 = .ok (.iconst 0, 1) := by decide +kernel
theorem dX4_readAll_79 : decode cX4_readAll 79 = .ok (.istore_n 1, 1) := by decide +kernel
theorem dX4_readAll_80 : decode cX4_readAll 80 = .ok (.iinc 2 1, 3) := by decide +kernel
theorem dX4_readAll_83 : decode cX4_readAll 83 = .ok (.goto (-46), 3) := by decide +kernel
theorem dX4_readAll_86 : decode cX4_readAll 86 = .ok (.iload_n 1, 1) := by decide +kernel
theorem dX4_readAll_87 : decode cX4_readAll 87 = .ok (.ifCond .ne 8, 3) := by decide +kernel
theorem dX4_readAll_90 : decode cX4_readAll 90 = .ok (.aload_n 0, 1) := by decide +kernel
theorem dX4_readAll_91 : decode cX4_readAll 91 = .ok (.iconst 0, 1) := by decide +kernel
theorem dX4_readAll_92 : decode cX4_readAll 92 = .ok (.putfield 47, 3) := by decide +kernel
theorem dX4_readAll_95 : decode cX4_readAll 95 = .ok (.return_, 1) := by decide +kernel
theorem dX4_readPart_0 : decode cX4_readPart 0 = .ok (.aload_n 0, 1) := by decide +kernel
theorem dX4_readPart_1 : decode cX4_readPart 1 = .ok (.aload_n 0, 1) := by decide +kernel
theorem dX4_readPart_2 : decode cX4_readPart 2 = .ok (.getfield 62, 3) := by decide +kernel
theorem dX4_readPart_5 : decode cX4_readPart 5 = .ok (.invokevirtual 73, 3) := by decide +kernel
theorem dX4_readPart_8 : decode cX4_readPart 8 = .ok (.invokestatic 77, 3) := by decide +kernel
theorem dX4_readPart_11 : decode cX4_readPart 11 = .ok (.istore_n 1, 1) := by decide +kernel
theorem dX4_readPart_12 : decode cX4_readPart 12 = .ok (.iload_n 1, 1) := by decide +kernel
theorem dX4_readPart_13 : decode cX4_readPart 13 = .ok (.iconst (-1), 1) := by decide +kernel
theorem dX4_readPart_14 : decode cX4_readPart 14 = .ok (.if_icmp .eq 12, 3) := by decide +kernel
theorem dX4_readPart_17 : decode cX4_readPart 17 = .ok (.aload_n 0, 1) := by decide +kernel
theorem dX4_readPart_18 : decode cX4_readPart 18 = .ok (.getfield 47, 3) := by decide +kernel
theorem dX4_readPart_21 : decode cX4_readPart 21 = .ok (.bipush 26, 2) := by decide +kernel
theorem dX4_readPart_23 : decode cX4_readPart 23 = .ok (.if_icmp .lt 12, 3) := by decide +kernel
theorem dX4_readPart_26 : decode cX4_readPart 26 = .ok (.aload_n 0, 1) := by decide +kernel
theorem dX4_readPart_27 : decode cX4_readPart 27 = .ok (.aload_n 0, 1) := by decide +kernel
theorem dX4_readPart_28 : decode cX4_readPart 28 = .ok (.getfield 62, 3) := by decide +kernel
theorem dX4_readPart_31 : decode cX4_readPart 31 = .ok (.invokevirtual 80, 3) := by decide +kernel
theorem dX4_readPart_34 : decode cX4_readPart 34 = .ok (.ireturn, 1) := by decide +kernel
theorem dX4_readPart_35 : decode cX4_readPart 35 = .ok (.aload_n 0, 1) := by decide +kernel
theorem dX4_readPart_36 : decode cX4_readPart 36 = .ok (.dup, 1) := by decide +kernel
theorem dX4_readPart_37 : decode cX4_readPart 37 = .ok (.getfield 62, 3) := by decide +kernel
theorem dX4_readPart_40 : decode cX4_readPart 40 = .ok (.iconst 1, 1) := by decide +kernel
theorem dX4_readPart_41 : decode cX4_readPart 41 = .ok (.iadd, 1) := by decide +kernel
theorem dX4_readPart_42 : decode cX4_readPart 42 = .ok (.putfield 62, 3) := by decide +kernel
theorem dX4_readPart_45 : decode cX4_readPart 45 = .ok (.aload_n 0, 1) := by decide +kernel
theorem dX4_readPart_46 : decode cX4_readPart 46 = .ok (.bipush 61, 2) := by decide +kernel
theorem dX4_readPart_48 : decode cX4_readPart 48 = .ok (.invokevirtual 69, 3) := by decide +kernel
theorem dX4_readPart_51 : decode cX4_readPart 51 = .ok (.ifCond .ne 5, 3) := by decide +kernel
theorem dX4_readPart_54 : decode cX4_readPart 54 = .ok (.iconst 0, 1) := by decide +kernel
theorem dX4_readPart_55 : decode cX4_readPart 55 = .ok (.ireturn, 1) := by decide +kernel
theorem dX4_readPart_56 : decode cX4_readPart 56 = .ok (.iconst 0, 1) := by decide +kernel
theorem dX4_readPart_57 : decode cX4_readPart 57 = .ok (.istore_n 2, 1) := by decide +kernel
theorem dX4_readPart_58 : decode cX4_readPart 58 = .ok (.iload_n 1, 1) := by decide +kernel
theorem dX4_readPart_59 : decode cX4_readPart 59 = .ok (.iconst 3, 1) := by decide +kernel
theorem dX4_readPart_60 : decode cX4_readPart 60 = .ok (.if_icmp .eq 34, 3) := by decide +kernel
theorem dX4_readPart_63 : decode cX4_readPart 63 = .ok (.aload_n 0, 1) := by decide +kernel
theorem dX4_readPart_64 : decode cX4_readPart 64 = .ok (.iconst 4, 1) := by decide +kernel
theorem dX4_readPart_65 : decode cX4_readPart 65 = .ok (.iconst 4, 1) := by decide +kernel
theorem dX4_readPart_66 : decode cX4_readPart 66 = .ok (.sipush 1000, 3) := by decide +kernel
theorem dX4_readPart_69 : decode cX4_readPart 69 = .ok (.sipush 1939, 3) := by decide +kernel
theorem dX4_readPart_72 : decode cX4_readPart 72 = .ok (.invokevirtual 84, 3) := by decide +kernel
theorem dX4_readPart_75 : decode cX4_readPart 75 = .ok (.ifCond .eq 12, 3) := by decide +kernel
theorem dX4_readPart_78 : decode cX4_readPart 78 = .ok (.aload_n 0, 1) := by decide +kernel
theorem dX4_readPart_79 : decode cX4_readPart 79 = .ok (.bipush 44, 2) := by decide +kernel
theorem dX4_readPart_81 : decode cX4_readPart 81 = .ok (.invokevirtual 69, 3) := by decide +kernel
theorem dX4_readPart_84 : decode cX4_readPart 84 = .ok (.ifCond .ne 5, 3) := by decide +kernel
theorem dX4_readPart_87 : decode cX4_readPart 87 = .ok (.iconst 0, 1) := by decide +kernel
theorem dX4_readPart_88 : decode cX4_readPart 88 = .ok (.ireturn, 1) := by decide +kernel
theorem dX4_readPart_89 : decode cX4_readPart 89 = .ok (.aload_n 0, 1) := by decide +kernel
theorem dX4_readPart_90 : decode cX4_readPart 90 = .ok (.getfield 88, 3) := by decide +kernel
theorem dX4_readPart_93 : decode cX4_readPart 93 = .ok (.istore_n 2, 1) := by decide +kernel
theorem dX4_readPart_94 : decode cX4_readPart 94 = .ok (.iload_n 1, 1) := by decide +kernel
theorem dX4_readPart_95 : decode cX4_readPart 95 = .ok (.iconst 3, 1) := by decide +kernel
theorem dX4_readPart_96 : decode cX4_readPart 96 = .ok (.if_icmp .ne 15, 3) := by decide +kernel
theorem dX4_readPart_99 : decode cX4_readPart 99 = .ok (.aload_n 0, 1) := by decide +kernel
theorem dX4_readPart_100 : decode cX4_readPart 100 = .ok (.iconst 1, 1) := by decide +kernel
theorem dX4_readPart_101 : decode cX4_readPart 101 = .ok (.iconst 1, 1) := by decide +kernel
theorem dX4_readPart_102 : decode cX4_readPart 102 = .ok (.iconst 0, 1) := by decide +kernel
theorem dX4_readPart_103 : decode cX4_readPart 103 = .ok (.bipush 9, 2) := by decide +kernel
theorem dX4_readPart_105 : decode cX4_readPart 105 = .ok (.invokevirtual 84, 3) := by decide +kernel
theorem dX4_readPart_108 : decode cX4_readPart 108 = .ok (.goto 13, 3) := by decide +kernel
theorem dX4_readPart_111 : decode cX4_readPart 111 = .ok (.aload_n 0, 1) := by decide +kernel
theorem dX4_readPart_112 : decode cX4_readPart 112 = .ok (.iconst 1, 1) := by decide +kernel
theorem dX4_readPart_113 : decode cX4_readPart 113 = .ok (.iconst 4, 1) := by decide +kernel
theorem dX4_readPart_114 : decode cX4_readPart 114 = .ok (.iconst 1, 1) := by decide +kernel
theorem dX4_readPart_115 : decode cX4_readPart 115 = .ok (.sipush 9999, 3) := by decide +kernel
theorem dX4_readPart_118 : decode cX4_readPart 118 = .ok (.invokevirtual 84, 3) := by decide +kernel
theorem dX4_readPart_121 : decode cX4_readPart 121 = .ok (.istore_n 3, 1) := by decide +kernel
theorem dX4_readPart_122 : decode cX4_readPart 122 = .ok (.iload_n 3, 1) := by decide +kernel
theorem dX4_readPart_123 : decode cX4_readPart 123 = .ok (.ifCond .ne 5, 3) := by decide +kernel
theorem dX4_readPart_126 : decode cX4_readPart 126 = .ok (.iconst 0, 1) := by decide +kernel
theorem dX4_readPart_127 : decode cX4_readPart 127 = .ok (.ireturn, 1) := by decide +kernel
theorem dX4_readPart_128 : decode cX4_readPart 128 = .ok (.aload_n 0, 1) := by decide +kernel
theorem dX4_readPart_129 : decode cX4_readPart 129 = .ok (.getfield 88, 3) := by decide +kernel
theorem dX4_readPart_132 : decode cX4_readPart 132 = .ok (.istore 4, 2) := by decide +kernel
theorem dX4_readPart_134 : decode cX4_readPart 134 = .ok (.iconst 0, 1) := by decide +kernel
theorem dX4_readPart_135 : decode cX4_readPart 135 = .ok (.istore 5, 2) := by decide +kernel
theorem dX4_readPart_137 : decode cX4_readPart 137 = .ok (.aload_n 0, 1) := by decide +kernel
theorem dX4_readPart_138 : decode cX4_readPart 138 = .ok (.aload_n 0, 1) := by decide +kernel
theorem dX4_readPart_139 : decode cX4_readPart 139 = .ok (.getfield 62, 3) := by decide +kernel
theorem dX4_readPart_142 : decode cX4_readPart 142 = .ok (.invokevirtual 73, 3) := by decide +kernel
theorem dX4_readPart_145 : decode cX4_readPart 145 = .ok (.bipush 64, 2) := by decide +kernel
theorem dX4_readPart_147 : decode cX4_readPart 147 = .ok (.if_icmp .ne 34, 3) := by decide +kernel
theorem dX4_readPart_150 : decode cX4_readPart 150 = .ok (.aload_n 0, 1) := by decide +kernel
theorem dX4_readPart_151 : decode cX4_readPart 151 = .ok (.dup, 1) := by decide +kernel
theorem dX4_readPart_152 : decode cX4_readPart 152 = .ok (.getfield 62, 3) := by decide +kernel
theorem dX4_readPart_155 : decode cX4_readPart 155 = .ok (.iconst 1, 1) := by decide +kernel
theorem dX4_readPart_156 : decode cX4_readPart 156 = .ok (.iadd, 1) := by decide +kernel
theorem dX4_readPart_157 : decode cX4_readPart 157 = .ok (.putfield 62, 3) := by decide +kernel
theorem dX4_readPart_160 : decode cX4_readPart 160 = .ok (.aload_n 0, 1) := by decide +kernel
theorem dX4_readPart_161 : decode cX4_readPart 161 = .ok (.iconst 1, 1) := by decide +kernel
theorem dX4_readPart_162 : decode cX4_readPart 162 = .ok (.iconst 3, 1) := by decide +kernel
theorem dX4_readPart_163 : decode cX4_readPart 163 = .ok (.iconst 0, 1) := by decide +kernel
theorem dX4_readPart_164 : decode cX4_readPart 164 = .ok (.sipush 199, 3) := by decide +kernel
theorem dX4_readPart_167 : decode cX4_readPart 167 = .ok (.invokevirtual 84, 3) := by decide +kernel
theorem dX4_readPart_170 : decode cX4_readPart 170 = .ok (.ifCond .ne 5, 3) := by decide +kernel
theorem dX4_readPart_173 : decode cX4_readPart 173 = .ok (.iconst 0, 1) := by decide +kernel
theorem dX4_readPart_174 : decode cX4_readPart 174 = .ok (.ireturn, 1) := by decide +kernel
theorem dX4_readPart_175 : decode cX4_readPart 175 = .ok (.aload_n 0, 1) := by decide +kernel
theorem dX4_readPart_176 : decode cX4_readPart 176 = .ok (.getfield 88, 3) := by decide +kernel
theorem dX4_readPart_179 : decode cX4_readPart 179 = .ok (.istore 5, 2) := by decide +kernel
theorem dX4_readPart_181 : decode cX4_readPart 181 = .ok (.aload_n 0, 1) := by decide +kernel
theorem dX4_readPart_182 : decode cX4_readPart 182 = .ok (.iload_n 1, 1) := by decide +kernel
theorem dX4_readPart_183 : decode cX4_readPart 183 = .ok (.iload_n 2, 1) := by decide +kernel
theorem dX4_readPart_184 : decode cX4_readPart 184 = .ok (.iload 4, 2) := by decide +kernel
theorem dX4_readPart_186 : decode cX4_readPart 186 = .ok (.iload 5, 2) := by decide +kernel
theorem dX4_readPart_188 : decode cX4_readPart 188 = .ok (.invokevirtual 91, 3) := by decide +kernel
theorem dX4_readPart_191 : decode cX4_readPart 191 = .ok (.iconst 1, 1) := by decide +kernel
theorem dX4_readPart_192 : decode cX4_readPart 192 = .ok (.ireturn, 1) := by decide +kernel
theorem dX4_addPart_0 : decode cX4_addPart 0 = .ok (.aload_n 0, 1) := by decide +kernel
theorem dX4_addPart_1 : decode cX4_addPart 1 = .ok (.getfield 19, 3) := by decide +kernel
theorem dX4_addPart_4 : decode cX4_addPart 4 = .ok (.aload_n 0, 1) := by decide +kernel
theorem dX4_addPart_5 : decode cX4_addPart 5 = .ok (.getfield 47, 3) := by decide +kernel
theorem dX4_addPart_8 : decode cX4_addPart 8 = .ok (.iload_n 1, 1) := by decide +kernel
theorem dX4_addPart_9 : decode cX4_addPart 9 = .ok (.iastore, 1) := by decide +kernel
theorem dX4_addPart_10 : decode cX4_addPart 10 = .ok (.aload_n 0, 1) := by decide +kernel
theorem dX4_addPart_11 : decode cX4_addPart 11 = .ok (.getfield 23, 3) := by decide +kernel
theorem dX4_addPart_14 : decode cX4_addPart 14 = .ok (.aload_n 0, 1) := by decide +kernel
theorem dX4_addPart_15 : decode cX4_addPart 15 = .ok (.getfield 47, 3) := by decide +kernel
theorem dX4_addPart_18 : decode cX4_addPart 18 = .ok (.iload_n 2, 1) := by decide +kernel
theorem dX4_addPart_19 : decode cX4_addPart 19 = .ok (.iastore, 1) := by decide +kernel
theorem dX4_addPart_20 : decode cX4_addPart 20 = .ok (.aload_n 0, 1) := by decide +kernel
theorem dX4_addPart_21 : decode cX4_addPart 21 = .ok (.getfield 26, 3) := by decide +kernel
theorem dX4_addPart_24 : decode cX4_addPart 24 = .ok (.aload_n 0, 1) := by decide +kernel
theorem dX4_addPart_25 : decode cX4_addPart 25 = .ok (.getfield 47, 3) := by decide +kernel
theorem dX4_addPart_28 : decode cX4_addPart 28 = .ok (.iload_n 3, 1) := by decide +kernel
theorem dX4_addPart_29 : decode cX4_addPart 29 = .ok (.iastore, 1) := by decide +kernel
theorem dX4_addPart_30 : decode cX4_addPart 30 = .ok (.aload_n 0, 1) := by decide +kernel
theorem dX4_addPart_31 : decode cX4_addPart 31 = .ok (.getfield 29, 3) := by decide +kernel
theorem dX4_addPart_34 : decode cX4_addPart 34 = .ok (.aload_n 0, 1) := by decide +kernel
theorem dX4_addPart_35 : decode cX4_addPart 35 = .ok (.getfield 47, 3) := by decide +kernel
theorem dX4_addPart_38 : decode cX4_addPart 38 = .ok (.iload 4, 2) := by decide +kernel
theorem dX4_addPart_40 : decode cX4_addPart 40 = .ok (.iastore, 1) := by decide +kernel
theorem dX4_addPart_41 : decode cX4_addPart 41 = .ok (.aload_n 0, 1) := by decide +kernel
theorem dX4_addPart_42 : decode cX4_addPart 42 = .ok (.dup, 1) := by decide +kernel
theorem dX4_addPart_43 : decode cX4_addPart 43 = .ok (.getfield 47, 3) := by decide +kernel
theorem dX4_addPart_46 : decode cX4_addPart 46 = .ok (.iconst 1, 1) := by decide +kernel
theorem dX4_addPart_47 : decode cX4_addPart 47 = .ok (.iadd, 1) := by decide +kernel
theorem dX4_addPart_48 : decode cX4_addPart 48 = .ok (.putfield 47, 3) := by decide +kernel
theorem dX4_addPart_51 : decode cX4_addPart 51 = .ok (.return_, 1) := by decide +kernel
theorem dX4_readSign_0 : decode cX4_readSign 0 = .ok (.aload_n 0, 1) := by decide +kernel
theorem dX4_readSign_1 : decode cX4_readSign 1 = .ok (.aload_n 0, 1) := by decide +kernel
theorem dX4_readSign_2 : decode cX4_readSign 2 = .ok (.getfield 62, 3) := by decide +kernel
theorem dX4_readSign_5 : decode cX4_readSign 5 = .ok (.invokevirtual 73, 3) := by decide +kernel
theorem dX4_readSign_8 : decode cX4_readSign 8 = .ok (.iload_n 1, 1) := by decide +kernel
theorem dX4_readSign_9 : decode cX4_readSign 9 = .ok (.if_icmp .eq 12, 3) := by decide +kernel
theorem dX4_readSign_12 : decode cX4_readSign 12 = .ok (.aload_n 0, 1) := by decide +kernel
theorem dX4_readSign_13 : decode cX4_readSign 13 = .ok (.aload_n 0, 1) := by decide +kernel
theorem dX4_readSign_14 : decode cX4_readSign 14 = .ok (.getfield 62, 3) := by decide +kernel
theorem dX4_readSign_17 : decode cX4_readSign 17 = .ok (.invokevirtual 80, 3) := by decide +kernel
theorem dX4_readSign_20 : decode cX4_readSign 20 = .ok (.ireturn, 1) := by decide +kernel
theorem dX4_readSign_21 : decode cX4_readSign 21 = .ok (.aload_n 0, 1) := by decide +kernel
theorem dX4_readSign_22 : decode cX4_readSign 22 = .ok (.dup, 1) := by decide +kernel
theorem dX4_readSign_23 : decode cX4_readSign 23 = .ok (.getfield 62, 3) := by decide +kernel
theorem dX4_readSign_26 : decode cX4_readSign 26 = .ok (.iconst 1, 1) := by decide +kernel
theorem dX4_readSign_27 : decode cX4_readSign 27 = .ok (.iadd, 1) := by decide +kernel
theorem dX4_readSign_28 : decode cX4_readSign 28 = .ok (.putfield 62, 3) := by decide +kernel
theorem dX4_readSign_31 : decode cX4_readSign 31 = .ok (.iconst 1, 1) := by decide +kernel
theorem dX4_readSign_32 : decode cX4_readSign 32 = .ok (.ireturn, 1) := by decide +kernel
theorem dX4_readNumber_0 : decode cX4_readNumber 0 = .ok (.aload_n 0, 1) := by decide +kernel
theorem dX4_readNumber_1 : decode cX4_readNumber 1 = .ok (.getfield 62, 3) := by decide +kernel
theorem dX4_readNumber_4 : decode cX4_readNumber 4 = .ok (.istore 5, 2) := by decide +kernel
theorem dX4_readNumber_6 : decode cX4_readNumber 6 = .ok (.iconst 0, 1) := by decide +kernel
theorem dX4_readNumber_7 : decode cX4_readNumber 7 = .ok (.istore 6, 2) := by decide +kernel
theorem dX4_readNumber_9 : decode cX4_readNumber 9 = .ok (.iconst 0, 1) := by decide +kernel
theorem dX4_readNumber_10 : decode cX4_readNumber 10 = .ok (.istore 7, 2) := by decide +kernel
theorem dX4_readNumber_12 : decode cX4_readNumber 12 = .ok (.iload 7, 2) := by decide +kernel
theorem dX4_readNumber_14 : decode cX4_readNumber 14 = .ok (.iload_n 2, 1) := by decide +kernel
theorem dX4_readNumber_15 : decode cX4_readNumber 15 = .ok (.if_icmp .ge 56, 3) := by decide +kernel
theorem dX4_readNumber_18 : decode cX4_readNumber 18 = .ok (.aload_n 0, 1) := by decide +kernel
theorem dX4_readNumber_19 : decode cX4_readNumber 19 = .ok (.aload_n 0, 1) := by decide +kernel
theorem dX4_readNumber_20 : decode cX4_readNumber 20 = .ok (.getfield 62, 3) := by decide +kernel
theorem dX4_readNumber_23 : decode cX4_readNumber 23 = .ok (.invokevirtual 73, 3) := by decide +kernel
theorem dX4_readNumber_26 : decode cX4_readNumber 26 = .ok (.bipush 48, 2) := by decide +kernel
theorem dX4_readNumber_28 : decode cX4_readNumber 28 = .ok (.bipush 57, 2) := by decide +kernel
theorem dX4_readNumber_30 : decode cX4_readNumber 30 = .ok (.invokestatic 95, 3) := by decide +kernel
theorem dX4_readNumber_33 : decode cX4_readNumber 33 = .ok (.ifCond .eq 38, 3) := by decide +kernel
theorem dX4_readNumber_36 : decode cX4_readNumber 36 = .ok (.bipush 10, 2) := by decide +kernel
theorem dX4_readNumber_38 : decode cX4_readNumber 38 = .ok (.iload 6, 2) := by decide +kernel
theorem dX4_readNumber_40 : decode cX4_readNumber 40 = .ok (.imul, 1) := by decide +kernel
theorem dX4_readNumber_41 : decode cX4_readNumber 41 = .ok (.aload_n 0, 1) := by decide +kernel
theorem dX4_readNumber_42 : decode cX4_readNumber 42 = .ok (.aload_n 0, 1) := by decide +kernel
theorem dX4_readNumber_43 : decode cX4_readNumber 43 = .ok (.getfield 62, 3) := by decide +kernel
theorem dX4_readNumber_46 : decode cX4_readNumber 46 = .ok (.invokevirtual 73, 3) := by decide +kernel
theorem dX4_readNumber_49 : decode cX4_readNumber 49 = .ok (.iadd, 1) := by decide +kernel
theorem dX4_readNumber_50 : decode cX4_readNumber 50 = .ok (.bipush 48, 2) := by decide +kernel
theorem dX4_readNumber_52 : decode cX4_readNumber 52 = .ok (.isub, 1) := by decide +kernel
theorem dX4_readNumber_53 : decode cX4_readNumber 53 = .ok (.istore 6, 2) := by decide +kernel
theorem dX4_readNumber_55 : decode cX4_readNumber 55 = .ok (.aload_n 0, 1) := by decide +kernel
theorem dX4_readNumber_56 : decode cX4_readNumber 56 = .ok (.dup, 1) := by decide +kernel
theorem dX4_readNumber_57 : decode cX4_readNumber 57 = .ok (.getfield 62, 3) := by decide +kernel
theorem dX4_readNumber_60 : decode cX4_readNumber 60 = .ok (.iconst 1, 1) := by decide +kernel
theorem dX4_readNumber_61 : decode cX4_readNumber 61 = .ok (.iadd, 1) := by decide +kernel
theorem dX4_readNumber_62 : decode cX4_readNumber 62 = .ok (.putfield 62, 3) := by decide +kernel
theorem dX4_readNumber_65 : decode cX4_readNumber 65 = .ok (.iinc 7 1, 3) := by decide +kernel
theorem dX4_readNumber_68 : decode cX4_readNumber 68 = .ok (.goto (-56), 3) := by decide +kernel
theorem dX4_readNumber_71 : decode cX4_readNumber 71 = .ok (.aload_n 0, 1) := by decide +kernel
theorem dX4_readNumber_72 : decode cX4_readNumber 72 = .ok (.getfield 62, 3) := by decide +kernel
theorem dX4_readNumber_75 : decode cX4_readNumber 75 = .ok (.iload 5, 2) := by decide +kernel
theorem dX4_readNumber_77 : decode cX4_readNumber 77 = .ok (.isub, 1) := by decide +kernel
theorem dX4_readNumber_78 : decode cX4_readNumber 78 = .ok (.iload_n 1, 1) := by decide +kernel
theorem dX4_readNumber_79 : decode cX4_readNumber 79 = .ok (.if_icmp .ge 12, 3) := by decide +kernel
theorem dX4_readNumber_82 : decode cX4_readNumber 82 = .ok (.aload_n 0, 1) := by decide +kernel
theorem dX4_readNumber_83 : decode cX4_readNumber 83 = .ok (.aload_n 0, 1) := by decide +kernel
theorem dX4_readNumber_84 : decode cX4_readNumber 84 = .ok (.getfield 62, 3) := by decide +kernel
theorem dX4_readNumber_87 : decode cX4_readNumber 87 = .ok (.invokevirtual 80, 3) := by decide +kernel
theorem dX4_readNumber_90 : decode cX4_readNumber 90 = .ok (.ireturn, 1) := by decide +kernel
theorem dX4_readNumber_91 : decode cX4_readNumber 91 = .ok (.iload 6, 2) := by decide +kernel
theorem dX4_readNumber_93 : decode cX4_readNumber 93 = .ok (.iload_n 3, 1) := by decide +kernel
theorem dX4_readNumber_94 : decode cX4_readNumber 94 = .ok (.iload 4, 2) := by decide +kernel
theorem dX4_readNumber_96 : decode cX4_readNumber 96 = .ok (.invokestatic 95, 3) := by decide +kernel
theorem dX4_readNumber_99 : decode cX4_readNumber 99 = .ok (.ifCond .ne 10, 3) := by decide +kernel
theorem dX4_readNumber_102 : decode cX4_readNumber 102 = .ok (.aload_n 0, 1) := by decide +kernel
theorem dX4_readNumber_103 : decode cX4_readNumber 103 = .ok (.iload 5, 2) := by decide +kernel
theorem dX4_readNumber_105 : decode cX4_readNumber 105 = .ok (.invokevirtual 80, 3) := by decide +kernel
theorem dX4_readNumber_108 : decode cX4_readNumber 108 = .ok (.ireturn, 1) := by decide +kernel
theorem dX4_readNumber_109 : decode cX4_readNumber 109 = .ok (.aload_n 0, 1) := by decide +kernel
theorem dX4_readNumber_110 : decode cX4_readNumber 110 = .ok (.iload 6, 2) := by decide +kernel
theorem dX4_readNumber_112 : decode cX4_readNumber 112 = .ok (.putfield 88, 3) := by decide +kernel
theorem dX4_readNumber_115 : decode cX4_readNumber 115 = .ok (.iconst 1, 1) := by decide +kernel
theorem dX4_readNumber_116 : decode cX4_readNumber 116 = .ok (.ireturn, 1) := by decide +kernel
theorem dX4_failAt_0 : decode cX4_failAt 0 = .ok (.aload_n 0, 1) := by decide +kernel
theorem dX4_failAt_1 : decode cX4_failAt 1 = .ok (.iload_n 1, 1) := by decide +kernel
theorem dX4_failAt_2 : decode cX4_failAt 2 = .ok (.putfield 15, 3) := by decide +kernel
theorem dX4_failAt_5 : decode cX4_failAt 5 = .ok (.iconst 0, 1) := by decide +kernel
theorem dX4_failAt_6 : decode cX4_failAt 6 = .ok (.ireturn, 1) := by decide +kernel
theorem dX4_signAt_0 : decode cX4_signAt 0 = .ok (.iload_n 1, 1) := by decide +kernel
theorem dX4_signAt_1 : decode cX4_signAt 1 = .ok (.iconst 0, 1) := by decide +kernel
theorem dX4_signAt_2 : decode cX4_signAt 2 = .ok (.aload_n 0, 1) := by decide +kernel
theorem dX4_signAt_3 : decode cX4_signAt 3 = .ok (.getfield 35, 3) := by decide +kernel
theorem dX4_signAt_6 : decode cX4_signAt 6 = .ok (.iconst 1, 1) := by decide +kernel
theorem dX4_signAt_7 : decode cX4_signAt 7 = .ok (.isub, 1) := by decide +kernel
theorem dX4_signAt_8 : decode cX4_signAt 8 = .ok (.invokestatic 95, 3) := by decide +kernel
theorem dX4_signAt_11 : decode cX4_signAt 11 = .ok (.ifCond .eq 12, 3) := by decide +kernel
theorem dX4_signAt_14 : decode cX4_signAt 14 = .ok (.aload_n 0, 1) := by decide +kernel
theorem dX4_signAt_15 : decode cX4_signAt 15 = .ok (.getfield 9, 3) := by decide +kernel
theorem dX4_signAt_18 : decode cX4_signAt 18 = .ok (.iload_n 1, 1) := by decide +kernel
theorem dX4_signAt_19 : decode cX4_signAt 19 = .ok (.caload, 1) := by decide +kernel
theorem dX4_signAt_20 : decode cX4_signAt 20 = .ok (.goto 4, 3) := by decide +kernel
theorem dX4_signAt_23 : decode cX4_signAt 23 = .ok (.iconst (-1), 1) := by decide +kernel
theorem dX4_signAt_24 : decode cX4_signAt 24 = .ok (.ireturn, 1) := by decide +kernel
theorem dX4_kindOf_0 : decode cX4_kindOf 0 = .ok (.iload_n 0, 1) := by decide +kernel
theorem dX4_kindOf_1 : decode cX4_kindOf 1 = .ok (.bipush 107, 2) := by decide +kernel
theorem dX4_kindOf_3 : decode cX4_kindOf 3 = .ok (.if_icmp .ne 7, 3) := by decide +kernel
theorem dX4_kindOf_6 : decode cX4_kindOf 6 = .ok (.iconst 3, 1) := by decide +kernel
theorem dX4_kindOf_7 : decode cX4_kindOf 7 = .ok (.goto 22, 3) := by decide +kernel
theorem dX4_kindOf_10 : decode cX4_kindOf 10 = .ok (.iload_n 0, 1) := by decide +kernel
theorem dX4_kindOf_11 : decode cX4_kindOf 11 = .ok (.bipush 97, 2) := by decide +kernel
theorem dX4_kindOf_13 : decode cX4_kindOf 13 = .ok (.bipush 99, 2) := by decide +kernel
theorem dX4_kindOf_15 : decode cX4_kindOf 15 = .ok (.invokestatic 95, 3) := by decide +kernel
theorem dX4_kindOf_18 : decode cX4_kindOf 18 = .ok (.ifCond .eq 10, 3) := by decide +kernel
theorem dX4_kindOf_21 : decode cX4_kindOf 21 = .ok (.iload_n 0, 1) := by decide +kernel
theorem dX4_kindOf_22 : decode cX4_kindOf 22 = .ok (.bipush 97, 2) := by decide +kernel
theorem dX4_kindOf_24 : decode cX4_kindOf 24 = .ok (.isub, 1) := by decide +kernel
theorem dX4_kindOf_25 : decode cX4_kindOf 25 = .ok (.goto 4, 3) := by decide +kernel
theorem dX4_kindOf_28 : decode cX4_kindOf 28 = .ok (.iconst (-1), 1) := by decide +kernel
theorem dX4_kindOf_29 : decode cX4_kindOf 29 = .ok (.ireturn, 1) := by decide +kernel
