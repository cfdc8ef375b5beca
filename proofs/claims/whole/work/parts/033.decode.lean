theorem dX11_init_0 : decode cX11_init 0 = .ok (.aload_n 0, 1) := by decide +kernel
theorem dX11_init_1 : decode cX11_init 1 = .ok (.invokespecial 1, 3) := by decide +kernel
theorem dX11_init_4 : decode cX11_init 4 = .ok (.aload_n 0, 1) := by decide +kernel
theorem dX11_init_5 : decode cX11_init 5 = .ok (.bipush 8, 2) := by decide +kernel
theorem dX11_init_7 : decode cX11_init 7 = .ok (.newarray .int, 2) := by decide +kernel
theorem dX11_init_9 : decode cX11_init 9 = .ok (.putfield 9, 3) := by decide +kernel
theorem dX11_init_12 : decode cX11_init 12 = .ok (.aload_n 0, 1) := by decide +kernel
theorem dX11_init_13 : decode cX11_init 13 = .ok (.new 13, 3) := by decide +kernel
theorem dX11_init_16 : decode cX11_init 16 = .ok (.dup, 1) := by decide +kernel
theorem dX11_init_17 : decode cX11_init 17 = .ok (.invokespecial 15, 3) := by decide +kernel
theorem dX11_init_20 : decode cX11_init 20 = .ok (.putfield 16, 3) := by decide +kernel
theorem dX11_init_23 : decode cX11_init 23 = .ok (.aload_n 0, 1) := by decide +kernel
theorem dX11_init_24 : decode cX11_init 24 = .ok (.new 20, 3) := by decide +kernel
theorem dX11_init_27 : decode cX11_init 27 = .ok (.dup, 1) := by decide +kernel
theorem dX11_init_28 : decode cX11_init 28 = .ok (.invokespecial 22, 3) := by decide +kernel
theorem dX11_init_31 : decode cX11_init 31 = .ok (.putfield 23, 3) := by decide +kernel
theorem dX11_init_34 : decode cX11_init 34 = .ok (.aload_n 0, 1) := by decide +kernel
theorem dX11_init_35 : decode cX11_init 35 = .ok (.bipush 8, 2) := by decide +kernel
theorem dX11_init_37 : decode cX11_init 37 = .ok (.anewarray 27, 3) := by decide +kernel
theorem dX11_init_40 : decode cX11_init 40 = .ok (.putfield 29, 3) := by decide +kernel
theorem dX11_init_43 : decode cX11_init 43 = .ok (.aload_n 0, 1) := by decide +kernel
theorem dX11_init_44 : decode cX11_init 44 = .ok (.new 33, 3) := by decide +kernel
theorem dX11_init_47 : decode cX11_init 47 = .ok (.dup, 1) := by decide +kernel
theorem dX11_init_48 : decode cX11_init 48 = .ok (.invokespecial 35, 3) := by decide +kernel
theorem dX11_init_51 : decode cX11_init 51 = .ok (.putfield 36, 3) := by decide +kernel
theorem dX11_init_54 : decode cX11_init 54 = .ok (.aload_n 0, 1) := by decide +kernel
theorem dX11_init_55 : decode cX11_init 55 = .ok (.new 40, 3) := by decide +kernel
theorem dX11_init_58 : decode cX11_init 58 = .ok (.dup, 1) := by decide +kernel
theorem dX11_init_59 : decode cX11_init 59 = .ok (.invokespecial 42, 3) := by decide +kernel
theorem dX11_init_62 : decode cX11_init 62 = .ok (.putfield 43, 3) := by decide +kernel
theorem dX11_init_65 : decode cX11_init 65 = .ok (.aload_n 0, 1) := by decide +kernel
theorem dX11_init_66 : decode cX11_init 66 = .ok (.bipush 6, 2) := by decide +kernel
theorem dX11_init_68 : decode cX11_init 68 = .ok (.anewarray 47, 3) := by decide +kernel
theorem dX11_init_71 : decode cX11_init 71 = .ok (.putfield 49, 3) := by decide +kernel
theorem dX11_init_74 : decode cX11_init 74 = .ok (.aload_n 0, 1) := by decide +kernel
theorem dX11_init_75 : decode cX11_init 75 = .ok (.new 53, 3) := by decide +kernel
theorem dX11_init_78 : decode cX11_init 78 = .ok (.dup, 1) := by decide +kernel
theorem dX11_init_79 : decode cX11_init 79 = .ok (.invokespecial 55, 3) := by decide +kernel
theorem dX11_init_82 : decode cX11_init 82 = .ok (.putfield 56, 3) := by decide +kernel
theorem dX11_init_85 : decode cX11_init 85 = .ok (.aload_n 0, 1) := by decide +kernel
theorem dX11_init_86 : decode cX11_init 86 = .ok (.new 60, 3) := by decide +kernel
theorem dX11_init_89 : decode cX11_init 89 = .ok (.dup, 1) := by decide +kernel
theorem dX11_init_90 : decode cX11_init 90 = .ok (.invokespecial 62, 3) := by decide +kernel
theorem dX11_init_93 : decode cX11_init 93 = .ok (.putfield 63, 3) := by decide +kernel
theorem dX11_init_96 : decode cX11_init 96 = .ok (.aload_n 0, 1) := by decide +kernel
theorem dX11_init_97 : decode cX11_init 97 = .ok (.new 67, 3) := by decide +kernel
theorem dX11_init_100 : decode cX11_init 100 = .ok (.dup, 1) := by decide +kernel
theorem dX11_init_101 : decode cX11_init 101 = .ok (.invokespecial 69, 3) := by decide +kernel
theorem dX11_init_104 : decode cX11_init 104 = .ok (.putfield 70, 3) := by decide +kernel
theorem dX11_init_107 : decode cX11_init 107 = .ok (.aload_n 0, 1) := by decide +kernel
theorem dX11_init_108 : decode cX11_init 108 = .ok (.iconst 4, 1) := by decide +kernel
theorem dX11_init_109 : decode cX11_init 109 = .ok (.anewarray 74, 3) := by decide +kernel
theorem dX11_init_112 : decode cX11_init 112 = .ok (.putfield 76, 3) := by decide +kernel
theorem dX11_init_115 : decode cX11_init 115 = .ok (.iconst 0, 1) := by decide +kernel
theorem dX11_init_116 : decode cX11_init 116 = .ok (.istore_n 1, 1) := by decide +kernel
theorem dX11_init_117 : decode cX11_init 117 = .ok (.iload_n 1, 1) := by decide +kernel
theorem dX11_init_118 : decode cX11_init 118 = .ok (.iconst 4, 1) := by decide +kernel
theorem dX11_init_119 : decode cX11_init 119 = .ok (.if_icmp .ge 22, 3) := by decide +kernel
theorem dX11_init_122 : decode cX11_init 122 = .ok (.aload_n 0, 1) := by decide +kernel
theorem dX11_init_123 : decode cX11_init 123 = .ok (.getfield 76, 3) := by decide +kernel
theorem dX11_init_126 : decode cX11_init 126 = .ok (.iload_n 1, 1) := by decide +kernel
theorem dX11_init_127 : decode cX11_init 127 = .ok (.new 74, 3) := by decide +kernel
theorem dX11_init_130 : decode cX11_init 130 = .ok (.dup, 1) := by decide +kernel
theorem dX11_init_131 : decode cX11_init 131 = .ok (.invokespecial 80, 3) := by decide +kernel
theorem dX11_init_134 : decode cX11_init 134 = .ok (.aastore, 1) := by decide +kernel
theorem dX11_init_135 : decode cX11_init 135 = .ok (.iinc 1 1, 3) := by decide +kernel
theorem dX11_init_138 : decode cX11_init 138 = .ok (.goto (-21), 3) := by decide +kernel
theorem dX11_init_141 : decode cX11_init 141 = .ok (.return_, 1) := by decide +kernel
theorem dX11_pass_0 : decode cX11_pass 0 = .ok (.iload_n 1, 1) := by decide +kernel
theorem dX11_pass_1 : decode cX11_pass 1 = .ok (.iconst 1, 1) := by decide +kernel
theorem dX11_pass_2 : decode cX11_pass 2 = .ok (.bipush 100, 2) := by decide +kernel
theorem dX11_pass_4 : decode cX11_pass 4 = .ok (.invokestatic 81, 3) := by decide +kernel
theorem dX11_pass_7 : decode cX11_pass 7 = .ok (.ifCond .eq 15, 3) := by decide +kernel
theorem dX11_pass_10 : decode cX11_pass 10 = .ok (.aload_n 0, 1) := by decide +kernel
theorem dX11_pass_11 : decode cX11_pass 11 = .ok (.getfield 85, 3) := by decide +kernel
theorem dX11_pass_14 : decode cX11_pass 14 = .ok (.iload_n 1, 1) := by decide +kernel
theorem dX11_pass_15 : decode cX11_pass 15 = .ok (.iadd, 1) := by decide +kernel
theorem dX11_pass_16 : decode cX11_pass 16 = .ok (.sipush 199, 3) := by decide +kernel
theorem dX11_pass_19 : decode cX11_pass 19 = .ok (.if_icmp .le 6, 3) := by decide +kernel
theorem dX11_pass_22 : decode cX11_pass 22 = .ok (.bipush (-2), 2) := by decide +kernel
theorem dX11_pass_24 : decode cX11_pass 24 = .ok (.ireturn, 1) := by decide +kernel
theorem dX11_pass_25 : decode cX11_pass 25 = .ok (.aload_n 0, 1) := by decide +kernel
theorem dX11_pass_26 : decode cX11_pass 26 = .ok (.dup, 1) := by decide +kernel
theorem dX11_pass_27 : decode cX11_pass 27 = .ok (.getfield 85, 3) := by decide +kernel
theorem dX11_pass_30 : decode cX11_pass 30 = .ok (.iload_n 1, 1) := by decide +kernel
theorem dX11_pass_31 : decode cX11_pass 31 = .ok (.iadd, 1) := by decide +kernel
theorem dX11_pass_32 : decode cX11_pass 32 = .ok (.putfield 85, 3) := by decide +kernel
theorem dX11_pass_35 : decode cX11_pass 35 = .ok (.aload_n 0, 1) := by decide +kernel
theorem dX11_pass_36 : decode cX11_pass 36 = .ok (.getfield 85, 3) := by decide +kernel
theorem dX11_pass_39 : decode cX11_pass 39 = .ok (.ireturn, 1) := by decide +kernel
theorem dX11_parish_0 : decode cX11_parish 0 = .ok (.iload_n 1, 1) := by decide +kernel
theorem dX11_parish_1 : decode cX11_parish 1 = .ok (.invokestatic 89, 3) := by decide +kernel
theorem dX11_parish_4 : decode cX11_parish 4 = .ok (.ifCond .ne 6, 3) := by decide +kernel
theorem dX11_parish_7 : decode cX11_parish 7 = .ok (.bipush (-2), 2) := by decide +kernel
theorem dX11_parish_9 : decode cX11_parish 9 = .ok (.ireturn, 1) := by decide +kernel
theorem dX11_parish_10 : decode cX11_parish 10 = .ok (.aload_n 0, 1) := by decide +kernel
theorem dX11_parish_11 : decode cX11_parish 11 = .ok (.getfield 93, 3) := by decide +kernel
theorem dX11_parish_14 : decode cX11_parish 14 = .ok (.bipush 8, 2) := by decide +kernel
theorem dX11_parish_16 : decode cX11_parish 16 = .ok (.if_icmp .lt 6, 3) := by decide +kernel
theorem dX11_parish_19 : decode cX11_parish 19 = .ok (.bipush (-4), 2) := by decide +kernel
theorem dX11_parish_21 : decode cX11_parish 21 = .ok (.ireturn, 1) := by decide +kernel
theorem dX11_parish_22 : decode cX11_parish 22 = .ok (.aload_n 0, 1) := by decide +kernel
theorem dX11_parish_23 : decode cX11_parish 23 = .ok (.getfield 9, 3) := by decide +kernel
theorem dX11_parish_26 : decode cX11_parish 26 = .ok (.aload_n 0, 1) := by decide +kernel
theorem dX11_parish_27 : decode cX11_parish 27 = .ok (.getfield 93, 3) := by decide +kernel
theorem dX11_parish_30 : decode cX11_parish 30 = .ok (.iload_n 1, 1) := by decide +kernel
theorem dX11_parish_31 : decode cX11_parish 31 = .ok (.iastore, 1) := by decide +kernel
theorem dX11_parish_32 : decode cX11_parish 32 = .ok (.aload_n 0, 1) := by decide +kernel
theorem dX11_parish_33 : decode cX11_parish 33 = .ok (.dup, 1) := by decide +kernel
theorem dX11_parish_34 : decode cX11_parish 34 = .ok (.getfield 93, 3) := by decide +kernel
theorem dX11_parish_37 : decode cX11_parish 37 = .ok (.iconst 1, 1) := by decide +kernel
theorem dX11_parish_38 : decode cX11_parish 38 = .ok (.iadd, 1) := by decide +kernel
theorem dX11_parish_39 : decode cX11_parish 39 = .ok (.putfield 93, 3) := by decide +kernel
theorem dX11_parish_42 : decode cX11_parish 42 = .ok (.aload_n 0, 1) := by decide +kernel
theorem dX11_parish_43 : decode cX11_parish 43 = .ok (.getfield 93, 3) := by decide +kernel
theorem dX11_parish_46 : decode cX11_parish 46 = .ok (.iconst 1, 1) := by decide +kernel
theorem dX11_parish_47 : decode cX11_parish 47 = .ok (.isub, 1) := by decide +kernel
theorem dX11_parish_48 : decode cX11_parish 48 = .ok (.ireturn, 1) := by decide +kernel
theorem dX11_moved_0 : decode cX11_moved 0 = .ok (.aload_n 0, 1) := by decide +kernel
theorem dX11_moved_1 : decode cX11_moved 1 = .ok (.iload_n 1, 1) := by decide +kernel
theorem dX11_moved_2 : decode cX11_moved 2 = .ok (.invokevirtual 96, 3) := by decide +kernel
theorem dX11_moved_5 : decode cX11_moved 5 = .ok (.ifCond .eq 20, 3) := by decide +kernel
theorem dX11_moved_8 : decode cX11_moved 8 = .ok (.iload_n 2, 1) := by decide +kernel
theorem dX11_moved_9 : decode cX11_moved 9 = .ok (.invokestatic 89, 3) := by decide +kernel
theorem dX11_moved_12 : decode cX11_moved 12 = .ok (.ifCond .eq 13, 3) := by decide +kernel
theorem dX11_moved_15 : decode cX11_moved 15 = .ok (.aload_n 0, 1) := by decide +kernel
theorem dX11_moved_16 : decode cX11_moved 16 = .ok (.getfield 9, 3) := by decide +kernel
theorem dX11_moved_19 : decode cX11_moved 19 = .ok (.iload_n 1, 1) := by decide +kernel
theorem dX11_moved_20 : decode cX11_moved 20 = .ok (.iaload, 1) := by decide +kernel
theorem dX11_moved_21 : decode cX11_moved 21 = .ok (.iload_n 2, 1) := by decide +kernel
theorem dX11_moved_22 : decode cX11_moved 22 = .ok (.if_icmp .ne 6, 3) := by decide +kernel
theorem dX11_moved_25 : decode cX11_moved 25 = .ok (.bipush (-2), 2) := by decide +kernel
theorem dX11_moved_27 : decode cX11_moved 27 = .ok (.ireturn, 1) := by decide +kernel
theorem dX11_moved_28 : decode cX11_moved 28 = .ok (.aload_n 0, 1) := by decide +kernel
theorem dX11_moved_29 : decode cX11_moved 29 = .ok (.getfield 9, 3) := by decide +kernel
theorem dX11_moved_32 : decode cX11_moved 32 = .ok (.iload_n 1, 1) := by decide +kernel
theorem dX11_moved_33 : decode cX11_moved 33 = .ok (.iaload, 1) := by decide +kernel
theorem dX11_moved_34 : decode cX11_moved 34 = .ok (.istore_n 3, 1) := by decide +kernel
theorem dX11_moved_35 : decode cX11_moved 35 = .ok (.aload_n 0, 1) := by decide +kernel
theorem dX11_moved_36 : decode cX11_moved 36 = .ok (.getfield 9, 3) := by decide +kernel
theorem dX11_moved_39 : decode cX11_moved 39 = .ok (.iload_n 1, 1) := by decide +kernel
theorem dX11_moved_40 : decode cX11_moved 40 = .ok (.iload_n 2, 1) := by decide +kernel
theorem dX11_moved_41 : decode cX11_moved 41 = .ok (.iastore, 1) := by decide +kernel
theorem dX11_moved_42 : decode cX11_moved 42 = .ok (.iload_n 3, 1) := by decide +kernel
theorem dX11_moved_43 : decode cX11_moved 43 = .ok (.ireturn, 1) := by decide +kernel
theorem dX11_bell_0 : decode cX11_bell 0 = .ok (.aload_n 0, 1) := by decide +kernel
theorem dX11_bell_1 : decode cX11_bell 1 = .ok (.iload_n 1, 1) := by decide +kernel
theorem dX11_bell_2 : decode cX11_bell 2 = .ok (.iload_n 2, 1) := by decide +kernel
theorem dX11_bell_3 : decode cX11_bell 3 = .ok (.iload_n 3, 1) := by decide +kernel
theorem dX11_bell_4 : decode cX11_bell 4 = .ok (.iload 4, 2) := by decide +kernel
theorem dX11_bell_6 : decode cX11_bell 6 = .ok (.invokevirtual 99, 3) := by decide +kernel
theorem dX11_bell_9 : decode cX11_bell 9 = .ok (.ifCond .ne 6, 3) := by decide +kernel
theorem dX11_bell_12 : decode cX11_bell 12 = .ok (.bipush (-2), 2) := by decide +kernel
theorem dX11_bell_14 : decode cX11_bell 14 = .ok (.ireturn, 1) := by decide +kernel
theorem dX11_bell_15 : decode cX11_bell 15 = .ok (.aload_n 0, 1) := by decide +kernel
theorem dX11_bell_16 : decode cX11_bell 16 = .ok (.getfield 16, 3) := by decide +kernel
theorem dX11_bell_19 : decode cX11_bell 19 = .ok (.invokevirtual 103, 3) := by decide +kernel
theorem dX11_bell_22 : decode cX11_bell 22 = .ok (.ifCond .eq 6, 3) := by decide +kernel
theorem dX11_bell_25 : decode cX11_bell 25 = .ok (.bipush (-4), 2) := by decide +kernel
theorem dX11_bell_27 : decode cX11_bell 27 = .ok (.ireturn, 1) := by decide +kernel
theorem dX11_bell_28 : decode cX11_bell 28 = .ok (.aload_n 0, 1) := by decide +kernel
theorem dX11_bell_29 : decode cX11_bell 29 = .ok (.getfield 16, 3) := by decide +kernel
theorem dX11_bell_32 : decode cX11_bell 32 = .ok (.new 107, 3) := by decide +kernel
theorem dX11_bell_35 : decode cX11_bell 35 = .ok (.dup, 1) := by decide +kernel
theorem dX11_bell_36 : decode cX11_bell 36 = .ok (.iload_n 1, 1) := by decide +kernel
theorem dX11_bell_37 : decode cX11_bell 37 = .ok (.iload_n 2, 1) := by decide +kernel
theorem dX11_bell_38 : decode cX11_bell 38 = .ok (.iload_n 3, 1) := by decide +kernel
theorem dX11_bell_39 : decode cX11_bell 39 = .ok (.iload 4, 2) := by decide +kernel
theorem dX11_bell_41 : decode cX11_bell 41 = .ok (.invokespecial 109, 3) := by decide +kernel
theorem dX11_bell_44 : decode cX11_bell 44 = .ok (.invokevirtual 112, 3) := by decide +kernel
theorem dX11_bell_47 : decode cX11_bell 47 = .ok (.ireturn, 1) := by decide +kernel
theorem dX11_read_0 : decode cX11_read 0 = .ok (.iload_n 1, 1) := by decide +kernel
theorem dX11_read_1 : decode cX11_read 1 = .ok (.invokestatic 116, 3) := by decide +kernel
theorem dX11_read_4 : decode cX11_read 4 = .ok (.ifCond .ne 6, 3) := by decide +kernel
theorem dX11_read_7 : decode cX11_read 7 = .ok (.bipush (-2), 2) := by decide +kernel
theorem dX11_read_9 : decode cX11_read 9 = .ok (.ireturn, 1) := by decide +kernel
theorem dX11_read_10 : decode cX11_read 10 = .ok (.aload_n 0, 1) := by decide +kernel
theorem dX11_read_11 : decode cX11_read 11 = .ok (.getfield 76, 3) := by decide +kernel
theorem dX11_read_14 : decode cX11_read 14 = .ok (.iload_n 1, 1) := by decide +kernel
theorem dX11_read_15 : decode cX11_read 15 = .ok (.aaload, 1) := by decide +kernel
theorem dX11_read_16 : decode cX11_read 16 = .ok (.astore_n 2, 1) := by decide +kernel
theorem dX11_read_17 : decode cX11_read 17 = .ok (.aload_n 2, 1) := by decide +kernel
theorem dX11_read_18 : decode cX11_read 18 = .ok (.getfield 119, 3) := by decide +kernel
theorem dX11_read_21 : decode cX11_read 21 = .ok (.ifCond .eq 9, 3) := by decide +kernel
theorem dX11_read_24 : decode cX11_read 24 = .ok (.aload_n 0, 1) := by decide +kernel
theorem dX11_read_25 : decode cX11_read 25 = .ok (.iconst 1, 1) := by decide +kernel
theorem dX11_read_26 : decode cX11_read 26 = .ok (.invokevirtual 123, 3) := by decide +kernel
theorem dX11_read_29 : decode cX11_read 29 = .ok (.ireturn, 1) := by decide +kernel
theorem dX11_read_30 : decode cX11_read 30 = .ok (.aload_n 2, 1) := by decide +kernel
theorem dX11_read_31 : decode cX11_read 31 = .ok (.getfield 127, 3) := by decide +kernel
theorem dX11_read_34 : decode cX11_read 34 = .ok (.iconst 4, 1) := by decide +kernel
theorem dX11_read_35 : decode cX11_read 35 = .ok (.idiv, 1) := by decide +kernel
theorem dX11_read_36 : decode cX11_read 36 = .ok (.istore_n 3, 1) := by decide +kernel
theorem dX11_read_37 : decode cX11_read 37 = .ok (.iconst 0, 1) := by decide +kernel
theorem dX11_read_38 : decode cX11_read 38 = .ok (.istore 4, 2) := by decide +kernel
theorem dX11_read_40 : decode cX11_read 40 = .ok (.iconst 0, 1) := by decide +kernel
theorem dX11_read_41 : decode cX11_read 41 = .ok (.istore 5, 2) := by decide +kernel
theorem dX11_read_43 : decode cX11_read 43 = .ok (.iload 5, 2) := by decide +kernel
theorem dX11_read_45 : decode cX11_read 45 = .ok (.iload_n 3, 1) := by decide +kernel
theorem dX11_read_46 : decode cX11_read 46 = .ok (.if_icmp .ge 62, 3) := by decide +kernel
theorem dX11_read_49 : decode cX11_read 49 = .ok (.iload 5, 2) := by decide +kernel
theorem dX11_read_51 : decode cX11_read 51 = .ok (.iconst 4, 1) := by decide +kernel
theorem dX11_read_52 : decode cX11_read 52 = .ok (.imul, 1) := by decide +kernel
theorem dX11_read_53 : decode cX11_read 53 = .ok (.istore 6, 2) := by decide +kernel
theorem dX11_read_55 : decode cX11_read 55 = .ok (.aload_n 0, 1) := by decide +kernel
theorem dX11_read_56 : decode cX11_read 56 = .ok (.aload_n 2, 1) := by decide +kernel
theorem dX11_read_57 : decode cX11_read 57 = .ok (.getfield 130, 3) := by decide +kernel
theorem dX11_read_60 : decode cX11_read 60 = .ok (.iload 6, 2) := by decide +kernel
theorem dX11_read_62 : decode cX11_read 62 = .ok (.iaload, 1) := by decide +kernel
theorem dX11_read_63 : decode cX11_read 63 = .ok (.aload_n 2, 1) := by decide +kernel
theorem dX11_read_64 : decode cX11_read 64 = .ok (.getfield 130, 3) := by decide +kernel
theorem dX11_read_67 : decode cX11_read 67 = .ok (.iload 6, 2) := by decide +kernel
theorem dX11_read_69 : decode cX11_read 69 = .ok (.iconst 1, 1) := by decide +kernel
theorem dX11_read_70 : decode cX11_read 70 = .ok (.iadd, 1) := by decide +kernel
theorem dX11_read_71 : decode cX11_read 71 = .ok (.iaload, 1) := by decide +kernel
theorem dX11_read_72 : decode cX11_read 72 = .ok (.aload_n 2, 1) := by decide +kernel
theorem dX11_read_73 : decode cX11_read 73 = .ok (.getfield 130, 3) := by decide +kernel
theorem dX11_read_76 : decode cX11_read 76 = .ok (.iload 6, 2) := by decide +kernel
theorem dX11_read_78 : decode cX11_read 78 = .ok (.iconst 2, 1) := by decide +kernel
theorem dX11_read_79 : decode cX11_read 79 = .ok (.iadd, 1) := by decide +kernel
theorem dX11_read_80 : decode cX11_read 80 = .ok (.iaload, 1) := by decide +kernel
theorem dX11_read_81 : decode cX11_read 81 = .ok (.aload_n 2, 1) := by decide +kernel
theorem dX11_read_82 : decode cX11_read 82 = .ok (.getfield 130, 3) := by decide +kernel
theorem dX11_read_85 : decode cX11_read 85 = .ok (.iload 6, 2) := by decide +kernel
theorem dX11_read_87 : decode cX11_read 87 = .ok (.iconst 3, 1) := by decide +kernel
theorem dX11_read_88 : decode cX11_read 88 = .ok (.iadd, 1) := by decide +kernel
theorem dX11_read_89 : decode cX11_read 89 = .ok (.iaload, 1) := by decide +kernel
theorem dX11_read_90 : decode cX11_read 90 = .ok (.invokevirtual 133, 3) := by decide +kernel
theorem dX11_read_93 : decode cX11_read 93 = .ok (.ifCond .ge 6, 3) := by decide +kernel
theorem dX11_read_96 : decode cX11_read 96 = .ok (.goto 12, 3) := by decide +kernel
theorem dX11_read_99 : decode cX11_read 99 = .ok (.iinc 4 1, 3) := by decide +kernel
theorem dX11_read_102 : decode cX11_read 102 = .ok (.iinc 5 1, 3) := by decide +kernel
theorem dX11_read_105 : decode cX11_read 105 = .ok (.goto (-62), 3) := by decide +kernel
theorem dX11_read_108 : decode cX11_read 108 = .ok (.iload 4, 2) := by decide +kernel
theorem dX11_read_110 : decode cX11_read 110 = .ok (.ireturn, 1) := by decide +kernel
theorem dX11_tone_0 : decode cX11_tone 0 = .ok (.aload_n 0, 1) := by decide +kernel
theorem dX11_tone_1 : decode cX11_tone 1 = .ok (.getfield 16, 3) := by decide +kernel
theorem dX11_tone_4 : decode cX11_tone 4 = .ok (.iload_n 1, 1) := by decide +kernel
theorem dX11_tone_5 : decode cX11_tone 5 = .ok (.invokevirtual 137, 3) := by decide +kernel
theorem dX11_tone_8 : decode cX11_tone 8 = .ok (.ifCond .eq 28, 3) := by decide +kernel
theorem dX11_tone_11 : decode cX11_tone 11 = .ok (.iload_n 2, 1) := by decide +kernel
theorem dX11_tone_12 : decode cX11_tone 12 = .ok (.iconst 0, 1) := by decide +kernel
theorem dX11_tone_13 : decode cX11_tone 13 = .ok (.iconst 4, 1) := by decide +kernel
theorem dX11_tone_14 : decode cX11_tone 14 = .ok (.invokestatic 81, 3) := by decide +kernel
theorem dX11_tone_17 : decode cX11_tone 17 = .ok (.ifCond .eq 19, 3) := by decide +kernel
theorem dX11_tone_20 : decode cX11_tone 20 = .ok (.iload_n 3, 1) := by decide +kernel
theorem dX11_tone_21 : decode cX11_tone 21 = .ok (.iconst 0, 1) := by decide +kernel
theorem dX11_tone_22 : decode cX11_tone 22 = .ok (.sipush 9999, 3) := by decide +kernel
theorem dX11_tone_25 : decode cX11_tone 25 = .ok (.invokestatic 81, 3) := by decide +kernel
theorem dX11_tone_28 : decode cX11_tone 28 = .ok (.ifCond .ne 12, 3) := by decide +kernel
theorem dX11_tone_31 : decode cX11_tone 31 = .ok (.iload_n 3, 1) := by decide +kernel
theorem dX11_tone_32 : decode cX11_tone 32 = .ok (.iconst (-1), 1) := by decide +kernel
theorem dX11_tone_33 : decode cX11_tone 33 = .ok (.if_icmp .eq 7, 3) := by decide +kernel
theorem dX11_tone_36 : decode cX11_tone 36 = .ok (.sipush (-1000), 3) := by decide +kernel
theorem dX11_tone_39 : decode cX11_tone 39 = .ok (.ireturn, 1) := by decide +kernel
theorem dX11_tone_40 : decode cX11_tone 40 = .ok (.aload_n 0, 1) := by decide +kernel
theorem dX11_tone_41 : decode cX11_tone 41 = .ok (.getfield 16, 3) := by decide +kernel
theorem dX11_tone_44 : decode cX11_tone 44 = .ok (.getfield 140, 3) := by decide +kernel
theorem dX11_tone_47 : decode cX11_tone 47 = .ok (.iload_n 1, 1) := by decide +kernel
theorem dX11_tone_48 : decode cX11_tone 48 = .ok (.aaload, 1) := by decide +kernel
theorem dX11_tone_49 : decode cX11_tone 49 = .ok (.getfield 144, 3) := by decide +kernel
theorem dX11_tone_52 : decode cX11_tone 52 = .ok (.astore 4, 2) := by decide +kernel
theorem dX11_tone_54 : decode cX11_tone 54 = .ok (.aload 4, 2) := by decide +kernel
theorem dX11_tone_56 : decode cX11_tone 56 = .ok (.iload_n 2, 1) := by decide +kernel
theorem dX11_tone_57 : decode cX11_tone 57 = .ok (.iaload, 1) := by decide +kernel
theorem dX11_tone_58 : decode cX11_tone 58 = .ok (.istore 5, 2) := by decide +kernel
theorem dX11_tone_60 : decode cX11_tone 60 = .ok (.aload 4, 2) := by decide +kernel
theorem dX11_tone_62 : decode cX11_tone 62 = .ok (.iload_n 2, 1) := by decide +kernel
theorem dX11_tone_63 : decode cX11_tone 63 = .ok (.iload_n 3, 1) := by decide +kernel
theorem dX11_tone_64 : decode cX11_tone 64 = .ok (.iastore, 1) := by decide +kernel
theorem dX11_tone_65 : decode cX11_tone 65 = .ok (.iload 5, 2) := by decide +kernel
theorem dX11_tone_67 : decode cX11_tone 67 = .ok (.ireturn, 1) := by decide +kernel
theorem dX11_about_0 : decode cX11_about 0 = .ok (.aload_n 0, 1) := by decide +kernel
theorem dX11_about_1 : decode cX11_about 1 = .ok (.getfield 16, 3) := by decide +kernel
theorem dX11_about_4 : decode cX11_about 4 = .ok (.iload_n 1, 1) := by decide +kernel
theorem dX11_about_5 : decode cX11_about 5 = .ok (.invokevirtual 137, 3) := by decide +kernel
theorem dX11_about_8 : decode cX11_about 8 = .ok (.ifCond .ne 7, 3) := by decide +kernel
theorem dX11_about_11 : decode cX11_about 11 = .ok (.sipush (-1000), 3) := by decide +kernel
theorem dX11_about_14 : decode cX11_about 14 = .ok (.ireturn, 1) := by decide +kernel
theorem dX11_about_15 : decode cX11_about 15 = .ok (.aload_n 0, 1) := by decide +kernel
theorem dX11_about_16 : decode cX11_about 16 = .ok (.getfield 16, 3) := by decide +kernel
theorem dX11_about_19 : decode cX11_about 19 = .ok (.getfield 140, 3) := by decide +kernel
theorem dX11_about_22 : decode cX11_about 22 = .ok (.iload_n 1, 1) := by decide +kernel
theorem dX11_about_23 : decode cX11_about 23 = .ok (.aaload, 1) := by decide +kernel
theorem dX11_about_24 : decode cX11_about 24 = .ok (.astore_n 3, 1) := by decide +kernel
theorem dX11_about_25 : decode cX11_about 25 = .ok (.iload_n 2, 1) := by decide +kernel
theorem dX11_about_26 : decode cX11_about 26 = .ok (.tableswitch 95 0 8 #[50, 55, 60, 65, 70, 75, 80, 85, 90], 50) := by decide +kernel
theorem dX11_about_76 : decode cX11_about 76 = .ok (.aload_n 3, 1) := by decide +kernel
theorem dX11_about_77 : decode cX11_about 77 = .ok (.getfield 147, 3) := by decide +kernel
theorem dX11_about_80 : decode cX11_about 80 = .ok (.ireturn, 1) := by decide +kernel
theorem dX11_about_81 : decode cX11_about 81 = .ok (.aload_n 3, 1) := by decide +kernel
theorem dX11_about_82 : decode cX11_about 82 = .ok (.getfield 150, 3) := by decide +kernel
theorem dX11_about_85 : decode cX11_about 85 = .ok (.ireturn, 1) := by decide +kernel
theorem dX11_about_86 : decode cX11_about 86 = .ok (.aload_n 3, 1) := by decide +kernel
theorem dX11_about_87 : decode cX11_about 87 = .ok (.getfield 153, 3) := by decide +kernel
theorem dX11_about_90 : decode cX11_about 90 = .ok (.ireturn, 1) := by decide +kernel
theorem dX11_about_91 : decode cX11_about 91 = .ok (.aload_n 3, 1) := by decide +kernel
theorem dX11_about_92 : decode cX11_about 92 = .ok (.getfield 156, 3) := by decide +kernel
theorem dX11_about_95 : decode cX11_about 95 = .ok (.ireturn, 1) := by decide +kernel
theorem dX11_about_96 : decode cX11_about 96 = .ok (.aload_n 3, 1) := by decide +kernel
theorem dX11_about_97 : decode cX11_about 97 = .ok (.invokevirtual 159, 3) := by decide +kernel
theorem dX11_about_100 : decode cX11_about 100 = .ok (.ireturn, 1) := by decide +kernel
theorem dX11_about_101 : decode cX11_about 101 = .ok (.aload_n 3, 1) := by decide +kernel
theorem dX11_about_102 : decode cX11_about 102 = .ok (.getfield 163, 3) := by decide +kernel
theorem dX11_about_105 : decode cX11_about 105 = .ok (.ireturn, 1) := by decide +kernel
theorem dX11_about_106 : decode cX11_about 106 = .ok (.aload_n 3, 1) := by decide +kernel
theorem dX11_about_107 : decode cX11_about 107 = .ok (.getfield 166, 3) := by decide +kernel
theorem dX11_about_110 : decode cX11_about 110 = .ok (.ireturn, 1) := by decide +kernel
theorem dX11_about_111 : decode cX11_about 111 = .ok (.aload_n 3, 1) := by decide +kernel
theorem dX11_about_112 : decode cX11_about 112 = .ok (.getfield 169, 3) := by decide +kernel
theorem dX11_about_115 : decode cX11_about 115 = .ok (.ireturn, 1) := by decide +kernel
theorem dX11_about_116 : decode cX11_about 116 = .ok (.aload_n 3, 1) := by decide +kernel
theorem dX11_about_117 : decode cX11_about 117 = .ok (.getfield 172, 3) := by decide +kernel
theorem dX11_about_120 : decode cX11_about 120 = .ok (.ireturn, 1) := by decide +kernel
theorem dX11_about_121 : decode cX11_about 121 = .ok (.sipush (-1000), 3) := by decide +kernel
theorem dX11_about_124 : decode cX11_about 124 = .ok (.ireturn, 1) := by decide +kernel
theorem dX11_become_0 : decode cX11_become 0 = .ok (.aload_n 0, 1) := by decide +kernel
theorem dX11_become_1 : decode cX11_become 1 = .ok (.getfield 16, 3) := by decide +kernel
theorem dX11_become_4 : decode cX11_become 4 = .ok (.iload_n 1, 1) := by decide +kernel
theorem dX11_become_5 : decode cX11_become 5 = .ok (.invokevirtual 137, 3) := by decide +kernel
theorem dX11_become_8 : decode cX11_become 8 = .ok (.ifCond .eq 12, 3) := by decide +kernel
theorem dX11_become_11 : decode cX11_become 11 = .ok (.iload_n 2, 1) := by decide +kernel
theorem dX11_become_12 : decode cX11_become 12 = .ok (.iconst 0, 1) := by decide +kernel
theorem dX11_become_13 : decode cX11_become 13 = .ok (.iconst 5, 1) := by decide +kernel
theorem dX11_become_14 : decode cX11_become 14 = .ok (.invokestatic 81, 3) := by decide +kernel
theorem dX11_become_17 : decode cX11_become 17 = .ok (.ifCond .ne 6, 3) := by decide +kernel
theorem dX11_become_20 : decode cX11_become 20 = .ok (.bipush (-2), 2) := by decide +kernel
theorem dX11_become_22 : decode cX11_become 22 = .ok (.ireturn, 1) := by decide +kernel
theorem dX11_become_23 : decode cX11_become 23 = .ok (.aload_n 0, 1) := by decide +kernel
theorem dX11_become_24 : decode cX11_become 24 = .ok (.getfield 16, 3) := by decide +kernel
theorem dX11_become_27 : decode cX11_become 27 = .ok (.getfield 140, 3) := by decide +kernel
theorem dX11_become_30 : decode cX11_become 30 = .ok (.iload_n 1, 1) := by decide +kernel
theorem dX11_become_31 : decode cX11_become 31 = .ok (.aaload, 1) := by decide +kernel
theorem dX11_become_32 : decode cX11_become 32 = .ok (.astore_n 3, 1) := by decide +kernel
theorem dX11_become_33 : decode cX11_become 33 = .ok (.aload_n 3, 1) := by decide +kernel
theorem dX11_become_34 : decode cX11_become 34 = .ok (.invokevirtual 159, 3) := by decide +kernel
theorem dX11_become_37 : decode cX11_become 37 = .ok (.istore 4, 2) := by decide +kernel
theorem dX11_become_39 : decode cX11_become 39 = .ok (.iload 4, 2) := by decide +kernel
theorem dX11_become_41 : decode cX11_become 41 = .ok (.iload_n 2, 1) := by decide +kernel
theorem dX11_become_42 : decode cX11_become 42 = .ok (.invokestatic 175, 3) := by decide +kernel
theorem dX11_become_45 : decode cX11_become 45 = .ok (.ifCond .ne 6, 3) := by decide +kernel
theorem dX11_become_48 : decode cX11_become 48 = .ok (.bipush (-3), 2) := by decide +kernel
theorem dX11_become_50 : decode cX11_become 50 = .ok (.ireturn, 1) := by decide +kernel
theorem dX11_become_51 : decode cX11_become 51 = .ok (.aload_n 3, 1) := by decide +kernel
theorem dX11_become_52 : decode cX11_become 52 = .ok (.getfield 166, 3) := by decide +kernel
theorem dX11_become_55 : decode cX11_become 55 = .ok (.bipush 16, 2) := by decide +kernel
theorem dX11_become_57 : decode cX11_become 57 = .ok (.if_icmp .lt 6, 3) := by decide +kernel
theorem dX11_become_60 : decode cX11_become 60 = .ok (.bipush (-4), 2) := by decide +kernel
theorem dX11_become_62 : decode cX11_become 62 = .ok (.ireturn, 1) := by decide +kernel
theorem dX11_become_63 : decode cX11_become 63 = .ok (.aload_n 3, 1) := by decide +kernel
theorem dX11_become_64 : decode cX11_become 64 = .ok (.iload_n 2, 1) := by decide +kernel
theorem dX11_become_65 : decode cX11_become 65 = .ok (.aload_n 0, 1) := by decide +kernel
theorem dX11_become_66 : decode cX11_become 66 = .ok (.getfield 85, 3) := by decide +kernel
theorem dX11_become_69 : decode cX11_become 69 = .ok (.invokevirtual 179, 3) := by decide +kernel
theorem dX11_become_72 : decode cX11_become 72 = .ok (.iload 4, 2) := by decide +kernel
theorem dX11_become_74 : decode cX11_become 74 = .ok (.ireturn, 1) := by decide +kernel
theorem dX11_was_0 : decode cX11_was 0 = .ok (.aload_n 0, 1) := by decide +kernel
theorem dX11_was_1 : decode cX11_was 1 = .ok (.getfield 16, 3) := by decide +kernel
theorem dX11_was_4 : decode cX11_was 4 = .ok (.iload_n 1, 1) := by decide +kernel
theorem dX11_was_5 : decode cX11_was 5 = .ok (.invokevirtual 137, 3) := by decide +kernel
theorem dX11_was_8 : decode cX11_was 8 = .ok (.ifCond .eq 15, 3) := by decide +kernel
theorem dX11_was_11 : decode cX11_was 11 = .ok (.iload_n 2, 1) := by decide +kernel
theorem dX11_was_12 : decode cX11_was 12 = .ok (.iconst 0, 1) := by decide +kernel
theorem dX11_was_13 : decode cX11_was 13 = .ok (.aload_n 0, 1) := by decide +kernel
theorem dX11_was_14 : decode cX11_was 14 = .ok (.getfield 85, 3) := by decide +kernel
theorem dX11_was_17 : decode cX11_was 17 = .ok (.invokestatic 81, 3) := by decide +kernel
theorem dX11_was_20 : decode cX11_was 20 = .ok (.ifCond .ne 6, 3) := by decide +kernel
theorem dX11_was_23 : decode cX11_was 23 = .ok (.bipush (-2), 2) := by decide +kernel
theorem dX11_was_25 : decode cX11_was 25 = .ok (.ireturn, 1) := by decide +kernel
theorem dX11_was_26 : decode cX11_was 26 = .ok (.aload_n 0, 1) := by decide +kernel
theorem dX11_was_27 : decode cX11_was 27 = .ok (.getfield 16, 3) := by decide +kernel
theorem dX11_was_30 : decode cX11_was 30 = .ok (.getfield 140, 3) := by decide +kernel
theorem dX11_was_33 : decode cX11_was 33 = .ok (.iload_n 1, 1) := by decide +kernel
theorem dX11_was_34 : decode cX11_was 34 = .ok (.aaload, 1) := by decide +kernel
theorem dX11_was_35 : decode cX11_was 35 = .ok (.iload_n 2, 1) := by decide +kernel
theorem dX11_was_36 : decode cX11_was 36 = .ok (.invokevirtual 183, 3) := by decide +kernel
theorem dX11_was_39 : decode cX11_was 39 = .ok (.ireturn, 1) := by decide +kernel
theorem dX11_type_0 : decode cX11_type 0 = .ok (.iload_n 1, 1) := by decide +kernel
theorem dX11_type_1 : decode cX11_type 1 = .ok (.iconst 0, 1) := by decide +kernel
theorem dX11_type_2 : decode cX11_type 2 = .ok (.sipush 255, 3) := by decide +kernel
theorem dX11_type_5 : decode cX11_type 5 = .ok (.invokestatic 81, 3) := by decide +kernel
theorem dX11_type_8 : decode cX11_type 8 = .ok (.ifCond .ne 6, 3) := by decide +kernel
theorem dX11_type_11 : decode cX11_type 11 = .ok (.bipush (-2), 2) := by decide +kernel
theorem dX11_type_13 : decode cX11_type 13 = .ok (.ireturn, 1) := by decide +kernel
theorem dX11_type_14 : decode cX11_type 14 = .ok (.aload_n 0, 1) := by decide +kernel
theorem dX11_type_15 : decode cX11_type 15 = .ok (.getfield 23, 3) := by decide +kernel
theorem dX11_type_18 : decode cX11_type 18 = .ok (.getfield 186, 3) := by decide +kernel
theorem dX11_type_21 : decode cX11_type 21 = .ok (.bipush 100, 2) := by decide +kernel
theorem dX11_type_23 : decode cX11_type 23 = .ok (.if_icmp .lt 6, 3) := by decide +kernel
theorem dX11_type_26 : decode cX11_type 26 = .ok (.bipush (-4), 2) := by decide +kernel
theorem dX11_type_28 : decode cX11_type 28 = .ok (.ireturn, 1) := by decide +kernel
theorem dX11_type_29 : decode cX11_type 29 = .ok (.aload_n 0, 1) := by decide +kernel
theorem dX11_type_30 : decode cX11_type 30 = .ok (.getfield 23, 3) := by decide +kernel
theorem dX11_type_33 : decode cX11_type 33 = .ok (.iload_n 1, 1) := by decide +kernel
theorem dX11_type_34 : decode cX11_type 34 = .ok (.invokevirtual 189, 3) := by decide +kernel
theorem dX11_type_37 : decode cX11_type 37 = .ok (.aload_n 0, 1) := by decide +kernel
theorem dX11_type_38 : decode cX11_type 38 = .ok (.getfield 23, 3) := by decide +kernel
theorem dX11_type_41 : decode cX11_type 41 = .ok (.getfield 186, 3) := by decide +kernel
theorem dX11_type_44 : decode cX11_type 44 = .ok (.ireturn, 1) := by decide +kernel
theorem dX11_wipe_0 : decode cX11_wipe 0 = .ok (.aload_n 0, 1) := by decide +kernel
theorem dX11_wipe_1 : decode cX11_wipe 1 = .ok (.getfield 23, 3) := by decide +kernel
theorem dX11_wipe_4 : decode cX11_wipe 4 = .ok (.getfield 186, 3) := by decide +kernel
theorem dX11_wipe_7 : decode cX11_wipe 7 = .ok (.istore_n 1, 1) := by decide +kernel
theorem dX11_wipe_8 : decode cX11_wipe 8 = .ok (.aload_n 0, 1) := by decide +kernel
theorem dX11_wipe_9 : decode cX11_wipe 9 = .ok (.getfield 23, 3) := by decide +kernel
theorem dX11_wipe_12 : decode cX11_wipe 12 = .ok (.invokevirtual 193, 3) := by decide +kernel
theorem dX11_wipe_15 : decode cX11_wipe 15 = .ok (.iload_n 1, 1) := by decide +kernel
theorem dX11_wipe_16 : decode cX11_wipe 16 = .ok (.ireturn, 1) := by decide +kernel
theorem dX11_fault_0 : decode cX11_fault 0 = .ok (.aload_n 0, 1) := by decide +kernel
theorem dX11_fault_1 : decode cX11_fault 1 = .ok (.getfield 23, 3) := by decide +kernel
theorem dX11_fault_4 : decode cX11_fault 4 = .ok (.getfield 196, 3) := by decide +kernel
theorem dX11_fault_7 : decode cX11_fault 7 = .ok (.ireturn, 1) := by decide +kernel
theorem dX11_letter_0 : decode cX11_letter 0 = .ok (.aload_n 0, 1) := by decide +kernel
theorem dX11_letter_1 : decode cX11_letter 1 = .ok (.getfield 16, 3) := by decide +kernel
theorem dX11_letter_4 : decode cX11_letter 4 = .ok (.iload_n 1, 1) := by decide +kernel
theorem dX11_letter_5 : decode cX11_letter 5 = .ok (.invokevirtual 137, 3) := by decide +kernel
theorem dX11_letter_8 : decode cX11_letter 8 = .ok (.ifCond .eq 10, 3) := by decide +kernel
theorem dX11_letter_11 : decode cX11_letter 11 = .ok (.iload_n 2, 1) := by decide +kernel
theorem dX11_letter_12 : decode cX11_letter 12 = .ok (.invokestatic 199, 3) := by decide +kernel
theorem dX11_letter_15 : decode cX11_letter 15 = .ok (.ifCond .ne 6, 3) := by decide +kernel
theorem dX11_letter_18 : decode cX11_letter 18 = .ok (.bipush (-2), 2) := by decide +kernel
theorem dX11_letter_20 : decode cX11_letter 20 = .ok (.ireturn, 1) := by decide +kernel
theorem dX11_letter_21 : decode cX11_letter 21 = .ok (.aload_n 0, 1) := by decide +kernel
theorem dX11_letter_22 : decode cX11_letter 22 = .ok (.getfield 23, 3) := by decide +kernel
theorem dX11_letter_25 : decode cX11_letter 25 = .ok (.aload_n 0, 1) := by decide +kernel
theorem dX11_letter_26 : decode cX11_letter 26 = .ok (.getfield 16, 3) := by decide +kernel
theorem dX11_letter_29 : decode cX11_letter 29 = .ok (.getfield 140, 3) := by decide +kernel
theorem dX11_letter_32 : decode cX11_letter 32 = .ok (.iload_n 1, 1) := by decide +kernel
theorem dX11_letter_33 : decode cX11_letter 33 = .ok (.aaload, 1) := by decide +kernel
theorem dX11_letter_34 : decode cX11_letter 34 = .ok (.aload_n 0, 1) := by decide +kernel
theorem dX11_letter_35 : decode cX11_letter 35 = .ok (.getfield 23, 3) := by decide +kernel
theorem dX11_letter_38 : decode cX11_letter 38 = .ok (.iload_n 2, 1) := by decide +kernel
theorem dX11_letter_39 : decode cX11_letter 39 = .ok (.invokevirtual 202, 3) := by decide +kernel
theorem dX11_letter_42 : decode cX11_letter 42 = .ok (.invokevirtual 206, 3) := by decide +kernel
theorem dX11_letter_45 : decode cX11_letter 45 = .ok (.ireturn, 1) := by decide +kernel
theorem dX11_why_0 : decode cX11_why 0 = .ok (.aload_n 0, 1) := by decide +kernel
theorem dX11_why_1 : decode cX11_why 1 = .ok (.getfield 16, 3) := by decide +kernel
theorem dX11_why_4 : decode cX11_why 4 = .ok (.iload_n 1, 1) := by decide +kernel
theorem dX11_why_5 : decode cX11_why 5 = .ok (.invokevirtual 137, 3) := by decide +kernel
theorem dX11_why_8 : decode cX11_why 8 = .ok (.ifCond .eq 10, 3) := by decide +kernel
theorem dX11_why_11 : decode cX11_why 11 = .ok (.iload_n 2, 1) := by decide +kernel
theorem dX11_why_12 : decode cX11_why 12 = .ok (.invokestatic 199, 3) := by decide +kernel
theorem dX11_why_15 : decode cX11_why 15 = .ok (.ifCond .ne 6, 3) := by decide +kernel
theorem dX11_why_18 : decode cX11_why 18 = .ok (.bipush (-2), 2) := by decide +kernel
theorem dX11_why_20 : decode cX11_why 20 = .ok (.ireturn, 1) := by decide +kernel
theorem dX11_why_21 : decode cX11_why 21 = .ok (.aload_n 0, 1) := by decide +kernel
theorem dX11_why_22 : decode cX11_why 22 = .ok (.getfield 23, 3) := by decide +kernel
theorem dX11_why_25 : decode cX11_why 25 = .ok (.aload_n 0, 1) := by decide +kernel
theorem dX11_why_26 : decode cX11_why 26 = .ok (.getfield 16, 3) := by decide +kernel
theorem dX11_why_29 : decode cX11_why 29 = .ok (.getfield 140, 3) := by decide +kernel
theorem dX11_why_32 : decode cX11_why 32 = .ok (.iload_n 1, 1) := by decide +kernel
theorem dX11_why_33 : decode cX11_why 33 = .ok (.aaload, 1) := by decide +kernel
theorem dX11_why_34 : decode cX11_why 34 = .ok (.aload_n 0, 1) := by decide +kernel
theorem dX11_why_35 : decode cX11_why 35 = .ok (.getfield 23, 3) := by decide +kernel
theorem dX11_why_38 : decode cX11_why 38 = .ok (.iload_n 2, 1) := by decide +kernel
theorem dX11_why_39 : decode cX11_why 39 = .ok (.invokevirtual 202, 3) := by decide +kernel
theorem dX11_why_42 : decode cX11_why 42 = .ok (.invokevirtual 210, 3) := by decide +kernel
theorem dX11_why_45 : decode cX11_why 45 = .ok (.ireturn, 1) := by decide +kernel
theorem dX11_kept_0 : decode cX11_kept 0 = .ok (.aload_n 0, 1) := by decide +kernel
theorem dX11_kept_1 : decode cX11_kept 1 = .ok (.iload_n 1, 1) := by decide +kernel
theorem dX11_kept_2 : decode cX11_kept 2 = .ok (.invokevirtual 96, 3) := by decide +kernel
theorem dX11_kept_5 : decode cX11_kept 5 = .ok (.ifCond .eq 15, 3) := by decide +kernel
theorem dX11_kept_8 : decode cX11_kept 8 = .ok (.iload_n 2, 1) := by decide +kernel
theorem dX11_kept_9 : decode cX11_kept 9 = .ok (.iconst 0, 1) := by decide +kernel
theorem dX11_kept_10 : decode cX11_kept 10 = .ok (.aload_n 0, 1) := by decide +kernel
theorem dX11_kept_11 : decode cX11_kept 11 = .ok (.getfield 85, 3) := by decide +kernel
theorem dX11_kept_14 : decode cX11_kept 14 = .ok (.invokestatic 81, 3) := by decide +kernel
theorem dX11_kept_17 : decode cX11_kept 17 = .ok (.ifCond .ne 6, 3) := by decide +kernel
theorem dX11_kept_20 : decode cX11_kept 20 = .ok (.bipush (-2), 2) := by decide +kernel
theorem dX11_kept_22 : decode cX11_kept 22 = .ok (.ireturn, 1) := by decide +kernel
theorem dX11_kept_23 : decode cX11_kept 23 = .ok (.aload_n 0, 1) := by decide +kernel
theorem dX11_kept_24 : decode cX11_kept 24 = .ok (.getfield 16, 3) := by decide +kernel
theorem dX11_kept_27 : decode cX11_kept 27 = .ok (.iload_n 1, 1) := by decide +kernel
theorem dX11_kept_28 : decode cX11_kept 28 = .ok (.iload_n 2, 1) := by decide +kernel
theorem dX11_kept_29 : decode cX11_kept 29 = .ok (.aload_n 0, 1) := by decide +kernel
theorem dX11_kept_30 : decode cX11_kept 30 = .ok (.getfield 23, 3) := by decide +kernel
theorem dX11_kept_33 : decode cX11_kept 33 = .ok (.aload_n 0, 1) := by decide +kernel
theorem dX11_kept_34 : decode cX11_kept 34 = .ok (.getfield 23, 3) := by decide +kernel
theorem dX11_kept_37 : decode cX11_kept 37 = .ok (.iload_n 2, 1) := by decide +kernel
theorem dX11_kept_38 : decode cX11_kept 38 = .ok (.invokevirtual 202, 3) := by decide +kernel
theorem dX11_kept_41 : decode cX11_kept 41 = .ok (.invokevirtual 213, 3) := by decide +kernel
theorem dX11_kept_44 : decode cX11_kept 44 = .ok (.invokevirtual 217, 3) := by decide +kernel
theorem dX11_kept_47 : decode cX11_kept 47 = .ok (.ireturn, 1) := by decide +kernel
theorem dX11_list_0 : decode cX11_list 0 = .ok (.aload_n 0, 1) := by decide +kernel
theorem dX11_list_1 : decode cX11_list 1 = .ok (.getfield 16, 3) := by decide +kernel
theorem dX11_list_4 : decode cX11_list 4 = .ok (.iload_n 1, 1) := by decide +kernel
theorem dX11_list_5 : decode cX11_list 5 = .ok (.invokevirtual 137, 3) := by decide +kernel
theorem dX11_list_8 : decode cX11_list 8 = .ok (.ifCond .eq 17, 3) := by decide +kernel
theorem dX11_list_11 : decode cX11_list 11 = .ok (.iload_n 2, 1) := by decide +kernel
theorem dX11_list_12 : decode cX11_list 12 = .ok (.iconst 0, 1) := by decide +kernel
theorem dX11_list_13 : decode cX11_list 13 = .ok (.iconst 3, 1) := by decide +kernel
theorem dX11_list_14 : decode cX11_list 14 = .ok (.invokestatic 81, 3) := by decide +kernel
theorem dX11_list_17 : decode cX11_list 17 = .ok (.ifCond .ne 12, 3) := by decide +kernel
theorem dX11_list_20 : decode cX11_list 20 = .ok (.iload_n 2, 1) := by decide +kernel
theorem dX11_list_21 : decode cX11_list 21 = .ok (.iconst (-1), 1) := by decide +kernel
theorem dX11_list_22 : decode cX11_list 22 = .ok (.if_icmp .eq 7, 3) := by decide +kernel
theorem dX11_list_25 : decode cX11_list 25 = .ok (.sipush (-1000), 3) := by decide +kernel
theorem dX11_list_28 : decode cX11_list 28 = .ok (.ireturn, 1) := by decide +kernel
theorem dX11_list_29 : decode cX11_list 29 = .ok (.aload_n 0, 1) := by decide +kernel
theorem dX11_list_30 : decode cX11_list 30 = .ok (.getfield 16, 3) := by decide +kernel
theorem dX11_list_33 : decode cX11_list 33 = .ok (.getfield 140, 3) := by decide +kernel
theorem dX11_list_36 : decode cX11_list 36 = .ok (.iload_n 1, 1) := by decide +kernel
theorem dX11_list_37 : decode cX11_list 37 = .ok (.aaload, 1) := by decide +kernel
theorem dX11_list_38 : decode cX11_list 38 = .ok (.astore_n 3, 1) := by decide +kernel
theorem dX11_list_39 : decode cX11_list 39 = .ok (.aload_n 3, 1) := by decide +kernel
theorem dX11_list_40 : decode cX11_list 40 = .ok (.getfield 163, 3) := by decide +kernel
theorem dX11_list_43 : decode cX11_list 43 = .ok (.istore 4, 2) := by decide +kernel
theorem dX11_list_45 : decode cX11_list 45 = .ok (.aload_n 3, 1) := by decide +kernel
theorem dX11_list_46 : decode cX11_list 46 = .ok (.iload_n 2, 1) := by decide +kernel
theorem dX11_list_47 : decode cX11_list 47 = .ok (.putfield 163, 3) := by decide +kernel
theorem dX11_list_50 : decode cX11_list 50 = .ok (.iload 4, 2) := by decide +kernel
theorem dX11_list_52 : decode cX11_list 52 = .ok (.ireturn, 1) := by decide +kernel
theorem dX11_gained_0 : decode cX11_gained 0 = .ok (.aload_n 0, 1) := by decide +kernel
theorem dX11_gained_1 : decode cX11_gained 1 = .ok (.iload_n 1, 1) := by decide +kernel
theorem dX11_gained_2 : decode cX11_gained 2 = .ok (.invokevirtual 96, 3) := by decide +kernel
theorem dX11_gained_5 : decode cX11_gained 5 = .ok (.ifCond .eq 10, 3) := by decide +kernel
theorem dX11_gained_8 : decode cX11_gained 8 = .ok (.iload_n 2, 1) := by decide +kernel
theorem dX11_gained_9 : decode cX11_gained 9 = .ok (.invokestatic 199, 3) := by decide +kernel
theorem dX11_gained_12 : decode cX11_gained 12 = .ok (.ifCond .ne 6, 3) := by decide +kernel
theorem dX11_gained_15 : decode cX11_gained 15 = .ok (.ldc 221, 2) := by decide +kernel
theorem dX11_gained_17 : decode cX11_gained 17 = .ok (.ireturn, 1) := by decide +kernel
theorem dX11_gained_18 : decode cX11_gained 18 = .ok (.aload_n 0, 1) := by decide +kernel
theorem dX11_gained_19 : decode cX11_gained 19 = .ok (.getfield 23, 3) := by decide +kernel
theorem dX11_gained_22 : decode cX11_gained 22 = .ok (.iload_n 2, 1) := by decide +kernel
theorem dX11_gained_23 : decode cX11_gained 23 = .ok (.invokevirtual 202, 3) := by decide +kernel
theorem dX11_gained_26 : decode cX11_gained 26 = .ok (.astore_n 3, 1) := by decide +kernel
theorem dX11_gained_27 : decode cX11_gained 27 = .ok (.iconst 0, 1) := by decide +kernel
theorem dX11_gained_28 : decode cX11_gained 28 = .ok (.istore 4, 2) := by decide +kernel
theorem dX11_gained_30 : decode cX11_gained 30 = .ok (.iconst 0, 1) := by decide +kernel
theorem dX11_gained_31 : decode cX11_gained 31 = .ok (.istore 5, 2) := by decide +kernel
theorem dX11_gained_33 : decode cX11_gained 33 = .ok (.iload 5, 2) := by decide +kernel
theorem dX11_gained_35 : decode cX11_gained 35 = .ok (.aload_n 0, 1) := by decide +kernel
theorem dX11_gained_36 : decode cX11_gained 36 = .ok (.getfield 16, 3) := by decide +kernel
theorem dX11_gained_39 : decode cX11_gained 39 = .ok (.getfield 222, 3) := by decide +kernel
theorem dX11_gained_42 : decode cX11_gained 42 = .ok (.if_icmp .ge 66, 3) := by decide +kernel
theorem dX11_gained_45 : decode cX11_gained 45 = .ok (.aload_n 0, 1) := by decide +kernel
theorem dX11_gained_46 : decode cX11_gained 46 = .ok (.getfield 16, 3) := by decide +kernel
theorem dX11_gained_49 : decode cX11_gained 49 = .ok (.getfield 140, 3) := by decide +kernel
theorem dX11_gained_52 : decode cX11_gained 52 = .ok (.iload 5, 2) := by decide +kernel
theorem dX11_gained_54 : decode cX11_gained 54 = .ok (.aaload, 1) := by decide +kernel
theorem dX11_gained_55 : decode cX11_gained 55 = .ok (.astore 6, 2) := by decide +kernel
theorem dX11_gained_57 : decode cX11_gained 57 = .ok (.aload 6, 2) := by decide +kernel
theorem dX11_gained_59 : decode cX11_gained 59 = .ok (.getfield 147, 3) := by decide +kernel
theorem dX11_gained_62 : decode cX11_gained 62 = .ok (.iload_n 1, 1) := by decide +kernel
theorem dX11_gained_63 : decode cX11_gained 63 = .ok (.if_icmp .ne 39, 3) := by decide +kernel
theorem dX11_gained_66 : decode cX11_gained 66 = .ok (.aload 6, 2) := by decide +kernel
theorem dX11_gained_68 : decode cX11_gained 68 = .ok (.getfield 163, 3) := by decide +kernel
theorem dX11_gained_71 : decode cX11_gained 71 = .ok (.iconst (-1), 1) := by decide +kernel
theorem dX11_gained_72 : decode cX11_gained 72 = .ok (.if_icmp .eq 30, 3) := by decide +kernel
theorem dX11_gained_75 : decode cX11_gained 75 = .ok (.iload 4, 2) := by decide +kernel
theorem dX11_gained_77 : decode cX11_gained 77 = .ok (.aload 6, 2) := by decide +kernel
theorem dX11_gained_79 : decode cX11_gained 79 = .ok (.getfield 150, 3) := by decide +kernel
theorem dX11_gained_82 : decode cX11_gained 82 = .ok (.aload 6, 2) := by decide +kernel
theorem dX11_gained_84 : decode cX11_gained 84 = .ok (.getfield 163, 3) := by decide +kernel
theorem dX11_gained_87 : decode cX11_gained 87 = .ok (.aload_n 0, 1) := by decide +kernel
theorem dX11_gained_88 : decode cX11_gained 88 = .ok (.getfield 23, 3) := by decide +kernel
theorem dX11_gained_91 : decode cX11_gained 91 = .ok (.aload 6, 2) := by decide +kernel
theorem dX11_gained_93 : decode cX11_gained 93 = .ok (.aload_n 3, 1) := by decide +kernel
theorem dX11_gained_94 : decode cX11_gained 94 = .ok (.invokevirtual 206, 3) := by decide +kernel
theorem dX11_gained_97 : decode cX11_gained 97 = .ok (.isub, 1) := by decide +kernel
theorem dX11_gained_98 : decode cX11_gained 98 = .ok (.imul, 1) := by decide +kernel
theorem dX11_gained_99 : decode cX11_gained 99 = .ok (.iadd, 1) := by decide +kernel
theorem dX11_gained_100 : decode cX11_gained 100 = .ok (.istore 4, 2) := by decide +kernel
theorem dX11_gained_102 : decode cX11_gained 102 = .ok (.iinc 5 1, 3) := by decide +kernel
theorem dX11_gained_105 : decode cX11_gained 105 = .ok (.goto (-72), 3) := by decide +kernel
theorem dX11_gained_108 : decode cX11_gained 108 = .ok (.iload 4, 2) := by decide +kernel
theorem dX11_gained_110 : decode cX11_gained 110 = .ok (.ireturn, 1) := by decide +kernel
theorem dX11_find_0 : decode cX11_find 0 = .ok (.iload_n 3, 1) := by decide +kernel
theorem dX11_find_1 : decode cX11_find 1 = .ok (.iconst (-1), 1) := by decide +kernel
theorem dX11_find_2 : decode cX11_find 2 = .ok (.if_icmp .eq 14, 3) := by decide +kernel
theorem dX11_find_5 : decode cX11_find 5 = .ok (.iload_n 3, 1) := by decide +kernel
theorem dX11_find_6 : decode cX11_find 6 = .ok (.iconst 1, 1) := by decide +kernel
theorem dX11_find_7 : decode cX11_find 7 = .ok (.sipush 9999, 3) := by decide +kernel
theorem dX11_find_10 : decode cX11_find 10 = .ok (.invokestatic 81, 3) := by decide +kernel
theorem dX11_find_13 : decode cX11_find 13 = .ok (.ifCond .eq 7, 3) := by decide +kernel
theorem dX11_find_16 : decode cX11_find 16 = .ok (.iconst 1, 1) := by decide +kernel
theorem dX11_find_17 : decode cX11_find 17 = .ok (.goto 4, 3) := by decide +kernel
theorem dX11_find_20 : decode cX11_find 20 = .ok (.iconst 0, 1) := by decide +kernel
theorem dX11_find_21 : decode cX11_find 21 = .ok (.istore 5, 2) := by decide +kernel
theorem dX11_find_23 : decode cX11_find 23 = .ok (.iload_n 1, 1) := by decide +kernel
theorem dX11_find_24 : decode cX11_find 24 = .ok (.invokestatic 116, 3) := by decide +kernel
theorem dX11_find_27 : decode cX11_find 27 = .ok (.ifCond .eq 30, 3) := by decide +kernel
theorem dX11_find_30 : decode cX11_find 30 = .ok (.iload_n 2, 1) := by decide +kernel
theorem dX11_find_31 : decode cX11_find 31 = .ok (.iconst 0, 1) := by decide +kernel
theorem dX11_find_32 : decode cX11_find 32 = .ok (.bipush 99, 2) := by decide +kernel
theorem dX11_find_34 : decode cX11_find 34 = .ok (.invokestatic 81, 3) := by decide +kernel
theorem dX11_find_37 : decode cX11_find 37 = .ok (.ifCond .eq 20, 3) := by decide +kernel
theorem dX11_find_40 : decode cX11_find 40 = .ok (.iload 5, 2) := by decide +kernel
theorem dX11_find_42 : decode cX11_find 42 = .ok (.ifCond .eq 15, 3) := by decide +kernel
theorem dX11_find_45 : decode cX11_find 45 = .ok (.iload 4, 2) := by decide +kernel
theorem dX11_find_47 : decode cX11_find 47 = .ok (.iconst 0, 1) := by decide +kernel
theorem dX11_find_48 : decode cX11_find 48 = .ok (.sipush 999, 3) := by decide +kernel
theorem dX11_find_51 : decode cX11_find 51 = .ok (.invokestatic 81, 3) := by decide +kernel
theorem dX11_find_54 : decode cX11_find 54 = .ok (.ifCond .ne 6, 3) := by decide +kernel
theorem dX11_find_57 : decode cX11_find 57 = .ok (.bipush (-2), 2) := by decide +kernel
theorem dX11_find_59 : decode cX11_find 59 = .ok (.ireturn, 1) := by decide +kernel
theorem dX11_find_60 : decode cX11_find 60 = .ok (.aload_n 0, 1) := by decide +kernel
theorem dX11_find_61 : decode cX11_find 61 = .ok (.getfield 76, 3) := by decide +kernel
theorem dX11_find_64 : decode cX11_find 64 = .ok (.iload_n 1, 1) := by decide +kernel
theorem dX11_find_65 : decode cX11_find 65 = .ok (.aaload, 1) := by decide +kernel
theorem dX11_find_66 : decode cX11_find 66 = .ok (.astore 6, 2) := by decide +kernel
theorem dX11_find_68 : decode cX11_find 68 = .ok (.aload 6, 2) := by decide +kernel
theorem dX11_find_70 : decode cX11_find 70 = .ok (.getfield 119, 3) := by decide +kernel
theorem dX11_find_73 : decode cX11_find 73 = .ok (.ifCond .eq 9, 3) := by decide +kernel
theorem dX11_find_76 : decode cX11_find 76 = .ok (.aload_n 0, 1) := by decide +kernel
theorem dX11_find_77 : decode cX11_find 77 = .ok (.iconst 1, 1) := by decide +kernel
theorem dX11_find_78 : decode cX11_find 78 = .ok (.invokevirtual 123, 3) := by decide +kernel
theorem dX11_find_81 : decode cX11_find 81 = .ok (.ireturn, 1) := by decide +kernel
theorem dX11_find_82 : decode cX11_find 82 = .ok (.aload 6, 2) := by decide +kernel
theorem dX11_find_84 : decode cX11_find 84 = .ok (.getfield 127, 3) := by decide +kernel
theorem dX11_find_87 : decode cX11_find 87 = .ok (.iconst 5, 1) := by decide +kernel
theorem dX11_find_88 : decode cX11_find 88 = .ok (.if_icmp .ge 9, 3) := by decide +kernel
theorem dX11_find_91 : decode cX11_find 91 = .ok (.aload_n 0, 1) := by decide +kernel
theorem dX11_find_92 : decode cX11_find 92 = .ok (.iconst 2, 1) := by decide +kernel
theorem dX11_find_93 : decode cX11_find 93 = .ok (.invokevirtual 123, 3) := by decide +kernel
theorem dX11_find_96 : decode cX11_find 96 = .ok (.ireturn, 1) := by decide +kernel
theorem dX11_find_97 : decode cX11_find 97 = .ok (.aload_n 0, 1) := by decide +kernel
theorem dX11_find_98 : decode cX11_find 98 = .ok (.getfield 223, 3) := by decide +kernel
theorem dX11_find_101 : decode cX11_find 101 = .ok (.bipush 8, 2) := by decide +kernel
theorem dX11_find_103 : decode cX11_find 103 = .ok (.if_icmp .lt 6, 3) := by decide +kernel
theorem dX11_find_106 : decode cX11_find 106 = .ok (.bipush (-4), 2) := by decide +kernel
theorem dX11_find_108 : decode cX11_find 108 = .ok (.ireturn, 1) := by decide +kernel
theorem dX11_find_109 : decode cX11_find 109 = .ok (.new 27, 3) := by decide +kernel
theorem dX11_find_112 : decode cX11_find 112 = .ok (.dup, 1) := by decide +kernel
theorem dX11_find_113 : decode cX11_find 113 = .ok (.iload_n 2, 1) := by decide +kernel
theorem dX11_find_114 : decode cX11_find 114 = .ok (.iload_n 3, 1) := by decide +kernel
theorem dX11_find_115 : decode cX11_find 115 = .ok (.iload 4, 2) := by decide +kernel
theorem dX11_find_117 : decode cX11_find 117 = .ok (.invokespecial 226, 3) := by decide +kernel
theorem dX11_find_120 : decode cX11_find 120 = .ok (.astore 7, 2) := by decide +kernel
theorem dX11_find_122 : decode cX11_find 122 = .ok (.iconst 0, 1) := by decide +kernel
theorem dX11_find_123 : decode cX11_find 123 = .ok (.istore 8, 2) := by decide +kernel
theorem dX11_find_125 : decode cX11_find 125 = .ok (.iload 8, 2) := by decide +kernel
theorem dX11_find_127 : decode cX11_find 127 = .ok (.iconst 5, 1) := by decide +kernel
theorem dX11_find_128 : decode cX11_find 128 = .ok (.if_icmp .ge 47, 3) := by decide +kernel
theorem dX11_find_131 : decode cX11_find 131 = .ok (.aload 7, 2) := by decide +kernel
theorem dX11_find_133 : decode cX11_find 133 = .ok (.getfield 229, 3) := by decide +kernel
theorem dX11_find_136 : decode cX11_find 136 = .ok (.iload 8, 2) := by decide +kernel
theorem dX11_find_138 : decode cX11_find 138 = .ok (.aload 6, 2) := by decide +kernel
theorem dX11_find_140 : decode cX11_find 140 = .ok (.getfield 130, 3) := by decide +kernel
theorem dX11_find_143 : decode cX11_find 143 = .ok (.iload 8, 2) := by decide +kernel
theorem dX11_find_145 : decode cX11_find 145 = .ok (.iaload, 1) := by decide +kernel
theorem dX11_find_146 : decode cX11_find 146 = .ok (.iconst 0, 1) := by decide +kernel
theorem dX11_find_147 : decode cX11_find 147 = .ok (.sipush 9999, 3) := by decide +kernel
theorem dX11_find_150 : decode cX11_find 150 = .ok (.invokestatic 81, 3) := by decide +kernel
theorem dX11_find_153 : decode cX11_find 153 = .ok (.ifCond .eq 14, 3) := by decide +kernel
theorem dX11_find_156 : decode cX11_find 156 = .ok (.aload 6, 2) := by decide +kernel
theorem dX11_find_158 : decode cX11_find 158 = .ok (.getfield 130, 3) := by decide +kernel
theorem dX11_find_161 : decode cX11_find 161 = .ok (.iload 8, 2) := by decide +kernel
theorem dX11_find_163 : decode cX11_find 163 = .ok (.iaload, 1) := by decide +kernel
theorem dX11_find_164 : decode cX11_find 164 = .ok (.goto 4, 3) := by decide +kernel
theorem dX11_find_167 : decode cX11_find 167 = .ok (.iconst (-1), 1) := by decide +kernel
theorem dX11_find_168 : decode cX11_find 168 = .ok (.iastore, 1) := by decide +kernel
theorem dX11_find_169 : decode cX11_find 169 = .ok (.iinc 8 1, 3) := by decide +kernel
theorem dX11_find_172 : decode cX11_find 172 = .ok (.goto (-47), 3) := by decide +kernel
theorem dX11_find_175 : decode cX11_find 175 = .ok (.aload_n 0, 1) := by decide +kernel
theorem dX11_find_176 : decode cX11_find 176 = .ok (.getfield 29, 3) := by decide +kernel
theorem dX11_find_179 : decode cX11_find 179 = .ok (.aload_n 0, 1) := by decide +kernel
theorem dX11_find_180 : decode cX11_find 180 = .ok (.getfield 223, 3) := by decide +kernel
theorem dX11_find_183 : decode cX11_find 183 = .ok (.aload 7, 2) := by decide +kernel
theorem dX11_find_185 : decode cX11_find 185 = .ok (.aastore, 1) := by decide +kernel
theorem dX11_find_186 : decode cX11_find 186 = .ok (.aload_n 0, 1) := by decide +kernel
theorem dX11_find_187 : decode cX11_find 187 = .ok (.dup, 1) := by decide +kernel
theorem dX11_find_188 : decode cX11_find 188 = .ok (.getfield 223, 3) := by decide +kernel
theorem dX11_find_191 : decode cX11_find 191 = .ok (.iconst 1, 1) := by decide +kernel
theorem dX11_find_192 : decode cX11_find 192 = .ok (.iadd, 1) := by decide +kernel
theorem dX11_find_193 : decode cX11_find 193 = .ok (.putfield 223, 3) := by decide +kernel
theorem dX11_find_196 : decode cX11_find 196 = .ok (.aload_n 0, 1) := by decide +kernel
theorem dX11_find_197 : decode cX11_find 197 = .ok (.getfield 223, 3) := by decide +kernel
theorem dX11_find_200 : decode cX11_find 200 = .ok (.iconst 1, 1) := by decide +kernel
theorem dX11_find_201 : decode cX11_find 201 = .ok (.isub, 1) := by decide +kernel
theorem dX11_find_202 : decode cX11_find 202 = .ok (.ireturn, 1) := by decide +kernel
theorem dX11_forget_0 : decode cX11_forget 0 = .ok (.aload_n 0, 1) := by decide +kernel
theorem dX11_forget_1 : decode cX11_forget 1 = .ok (.getfield 223, 3) := by decide +kernel
theorem dX11_forget_4 : decode cX11_forget 4 = .ok (.istore_n 1, 1) := by decide +kernel
theorem dX11_forget_5 : decode cX11_forget 5 = .ok (.aload_n 0, 1) := by decide +kernel
theorem dX11_forget_6 : decode cX11_forget 6 = .ok (.iconst 0, 1) := by decide +kernel
theorem dX11_forget_7 : decode cX11_forget 7 = .ok (.putfield 223, 3) := by decide +kernel
theorem dX11_forget_10 : decode cX11_forget 10 = .ok (.iload_n 1, 1) := by decide +kernel
theorem dX11_forget_11 : decode cX11_forget 11 = .ok (.ireturn, 1) := by decide +kernel
theorem dX11_could_0 : decode cX11_could 0 = .ok (.aload_n 0, 1) := by decide +kernel
theorem dX11_could_1 : decode cX11_could 1 = .ok (.iload_n 1, 1) := by decide +kernel
theorem dX11_could_2 : decode cX11_could 2 = .ok (.invokevirtual 230, 3) := by decide +kernel
theorem dX11_could_5 : decode cX11_could 5 = .ok (.ifCond .ne 6, 3) := by decide +kernel
theorem dX11_could_8 : decode cX11_could 8 = .ok (.bipush (-2), 2) := by decide +kernel
theorem dX11_could_10 : decode cX11_could 10 = .ok (.ireturn, 1) := by decide +kernel
theorem dX11_could_11 : decode cX11_could 11 = .ok (.aload_n 0, 1) := by decide +kernel
theorem dX11_could_12 : decode cX11_could 12 = .ok (.getfield 29, 3) := by decide +kernel
theorem dX11_could_15 : decode cX11_could 15 = .ok (.iload_n 1, 1) := by decide +kernel
theorem dX11_could_16 : decode cX11_could 16 = .ok (.aaload, 1) := by decide +kernel
theorem dX11_could_17 : decode cX11_could 17 = .ok (.aload_n 0, 1) := by decide +kernel
theorem dX11_could_18 : decode cX11_could 18 = .ok (.getfield 16, 3) := by decide +kernel
theorem dX11_could_21 : decode cX11_could 21 = .ok (.invokevirtual 233, 3) := by decide +kernel
theorem dX11_could_24 : decode cX11_could 24 = .ok (.ireturn, 1) := by decide +kernel
theorem dX11_next_0 : decode cX11_next 0 = .ok (.aload_n 0, 1) := by decide +kernel
theorem dX11_next_1 : decode cX11_next 1 = .ok (.iload_n 1, 1) := by decide +kernel
theorem dX11_next_2 : decode cX11_next 2 = .ok (.invokevirtual 230, 3) := by decide +kernel
theorem dX11_next_5 : decode cX11_next 5 = .ok (.ifCond .ne 6, 3) := by decide +kernel
theorem dX11_next_8 : decode cX11_next 8 = .ok (.bipush (-2), 2) := by decide +kernel
theorem dX11_next_10 : decode cX11_next 10 = .ok (.ireturn, 1) := by decide +kernel
theorem dX11_next_11 : decode cX11_next 11 = .ok (.aload_n 0, 1) := by decide +kernel
theorem dX11_next_12 : decode cX11_next 12 = .ok (.getfield 29, 3) := by decide +kernel
theorem dX11_next_15 : decode cX11_next 15 = .ok (.iload_n 1, 1) := by decide +kernel
theorem dX11_next_16 : decode cX11_next 16 = .ok (.aaload, 1) := by decide +kernel
theorem dX11_next_17 : decode cX11_next 17 = .ok (.aload_n 0, 1) := by decide +kernel
theorem dX11_next_18 : decode cX11_next 18 = .ok (.getfield 16, 3) := by decide +kernel
theorem dX11_next_21 : decode cX11_next 21 = .ok (.invokevirtual 237, 3) := by decide +kernel
theorem dX11_next_24 : decode cX11_next 24 = .ok (.ireturn, 1) := by decide +kernel
theorem dX11_laying_0 : decode cX11_laying 0 = .ok (.iload_n 1, 1) := by decide +kernel
theorem dX11_laying_1 : decode cX11_laying 1 = .ok (.iconst 0, 1) := by decide +kernel
theorem dX11_laying_2 : decode cX11_laying 2 = .ok (.iconst 1, 1) := by decide +kernel
theorem dX11_laying_3 : decode cX11_laying 3 = .ok (.invokestatic 81, 3) := by decide +kernel
theorem dX11_laying_6 : decode cX11_laying 6 = .ok (.ifCond .ne 6, 3) := by decide +kernel
theorem dX11_laying_9 : decode cX11_laying 9 = .ok (.bipush (-2), 2) := by decide +kernel
theorem dX11_laying_11 : decode cX11_laying 11 = .ok (.ireturn, 1) := by decide +kernel
theorem dX11_laying_12 : decode cX11_laying 12 = .ok (.aload_n 0, 1) := by decide +kernel
theorem dX11_laying_13 : decode cX11_laying 13 = .ok (.getfield 36, 3) := by decide +kernel
theorem dX11_laying_16 : decode cX11_laying 16 = .ok (.aload_n 0, 1) := by decide +kernel
theorem dX11_laying_17 : decode cX11_laying 17 = .ok (.getfield 29, 3) := by decide +kernel
theorem dX11_laying_20 : decode cX11_laying 20 = .ok (.aload_n 0, 1) := by decide +kernel
theorem dX11_laying_21 : decode cX11_laying 21 = .ok (.getfield 223, 3) := by decide +kernel
theorem dX11_laying_24 : decode cX11_laying 24 = .ok (.aload_n 0, 1) := by decide +kernel
theorem dX11_laying_25 : decode cX11_laying 25 = .ok (.getfield 16, 3) := by decide +kernel
theorem dX11_laying_28 : decode cX11_laying 28 = .ok (.invokevirtual 240, 3) := by decide +kernel
theorem dX11_laying_31 : decode cX11_laying 31 = .ok (.iload_n 1, 1) := by decide +kernel
theorem dX11_laying_32 : decode cX11_laying 32 = .ok (.ifCond .ne 13, 3) := by decide +kernel
theorem dX11_laying_35 : decode cX11_laying 35 = .ok (.aload_n 0, 1) := by decide +kernel
theorem dX11_laying_36 : decode cX11_laying 36 = .ok (.getfield 36, 3) := by decide +kernel
theorem dX11_laying_39 : decode cX11_laying 39 = .ok (.invokevirtual 244, 3) := by decide +kernel
theorem dX11_laying_42 : decode cX11_laying 42 = .ok (.goto 10, 3) := by decide +kernel
theorem dX11_laying_45 : decode cX11_laying 45 = .ok (.aload_n 0, 1) := by decide +kernel
theorem dX11_laying_46 : decode cX11_laying 46 = .ok (.getfield 36, 3) := by decide +kernel
theorem dX11_laying_49 : decode cX11_laying 49 = .ok (.invokevirtual 247, 3) := by decide +kernel
theorem dX11_laying_52 : decode cX11_laying 52 = .ok (.ireturn, 1) := by decide +kernel
theorem dX11_laid_0 : decode cX11_laid 0 = .ok (.aload_n 0, 1) := by decide +kernel
theorem dX11_laid_1 : decode cX11_laid 1 = .ok (.iload_n 1, 1) := by decide +kernel
theorem dX11_laid_2 : decode cX11_laid 2 = .ok (.invokevirtual 230, 3) := by decide +kernel
theorem dX11_laid_5 : decode cX11_laid 5 = .ok (.ifCond .ne 6, 3) := by decide +kernel
theorem dX11_laid_8 : decode cX11_laid 8 = .ok (.bipush (-2), 2) := by decide +kernel
theorem dX11_laid_10 : decode cX11_laid 10 = .ok (.ireturn, 1) := by decide +kernel
theorem dX11_laid_11 : decode cX11_laid 11 = .ok (.aload_n 0, 1) := by decide +kernel
theorem dX11_laid_12 : decode cX11_laid 12 = .ok (.getfield 36, 3) := by decide +kernel
theorem dX11_laid_15 : decode cX11_laid 15 = .ok (.aload_n 0, 1) := by decide +kernel
theorem dX11_laid_16 : decode cX11_laid 16 = .ok (.getfield 29, 3) := by decide +kernel
theorem dX11_laid_19 : decode cX11_laid 19 = .ok (.aload_n 0, 1) := by decide +kernel
theorem dX11_laid_20 : decode cX11_laid 20 = .ok (.getfield 223, 3) := by decide +kernel
theorem dX11_laid_23 : decode cX11_laid 23 = .ok (.aload_n 0, 1) := by decide +kernel
theorem dX11_laid_24 : decode cX11_laid 24 = .ok (.getfield 16, 3) := by decide +kernel
theorem dX11_laid_27 : decode cX11_laid 27 = .ok (.invokevirtual 240, 3) := by decide +kernel
theorem dX11_laid_30 : decode cX11_laid 30 = .ok (.aload_n 0, 1) := by decide +kernel
theorem dX11_laid_31 : decode cX11_laid 31 = .ok (.getfield 36, 3) := by decide +kernel
theorem dX11_laid_34 : decode cX11_laid 34 = .ok (.iload_n 1, 1) := by decide +kernel
theorem dX11_laid_35 : decode cX11_laid 35 = .ok (.invokevirtual 250, 3) := by decide +kernel
theorem dX11_laid_38 : decode cX11_laid 38 = .ok (.ireturn, 1) := by decide +kernel
theorem dX11_tune_0 : decode cX11_tune 0 = .ok (.iload_n 1, 1) := by decide +kernel
theorem dX11_tune_1 : decode cX11_tune 1 = .ok (.ifCond .ne 31, 3) := by decide +kernel
theorem dX11_tune_4 : decode cX11_tune 4 = .ok (.iload_n 2, 1) := by decide +kernel
theorem dX11_tune_5 : decode cX11_tune 5 = .ok (.iconst 0, 1) := by decide +kernel
theorem dX11_tune_6 : decode cX11_tune 6 = .ok (.bipush 49, 2) := by decide +kernel
theorem dX11_tune_8 : decode cX11_tune 8 = .ok (.invokestatic 81, 3) := by decide +kernel
theorem dX11_tune_11 : decode cX11_tune 11 = .ok (.ifCond .eq 21, 3) := by decide +kernel
theorem dX11_tune_14 : decode cX11_tune 14 = .ok (.aload_n 0, 1) := by decide +kernel
theorem dX11_tune_15 : decode cX11_tune 15 = .ok (.getfield 43, 3) := by decide +kernel
theorem dX11_tune_18 : decode cX11_tune 18 = .ok (.getfield 253, 3) := by decide +kernel
theorem dX11_tune_21 : decode cX11_tune 21 = .ok (.istore_n 3, 1) := by decide +kernel
theorem dX11_tune_22 : decode cX11_tune 22 = .ok (.aload_n 0, 1) := by decide +kernel
theorem dX11_tune_23 : decode cX11_tune 23 = .ok (.getfield 43, 3) := by decide +kernel
theorem dX11_tune_26 : decode cX11_tune 26 = .ok (.iload_n 2, 1) := by decide +kernel
theorem dX11_tune_27 : decode cX11_tune 27 = .ok (.putfield 253, 3) := by decide +kernel
theorem dX11_tune_30 : decode cX11_tune 30 = .ok (.iload_n 3, 1) := by decide +kernel
theorem dX11_tune_31 : decode cX11_tune 31 = .ok (.ireturn, 1) := by decide +kernel
theorem dX11_tune_32 : decode cX11_tune 32 = .ok (.iload_n 1, 1) := by decide +kernel
theorem dX11_tune_33 : decode cX11_tune 33 = .ok (.iconst 1, 1) := by decide +kernel
theorem dX11_tune_34 : decode cX11_tune 34 = .ok (.if_icmp .ne 32, 3) := by decide +kernel
theorem dX11_tune_37 : decode cX11_tune 37 = .ok (.iload_n 2, 1) := by decide +kernel
theorem dX11_tune_38 : decode cX11_tune 38 = .ok (.iconst 0, 1) := by decide +kernel
theorem dX11_tune_39 : decode cX11_tune 39 = .ok (.sipush 4095, 3) := by decide +kernel
theorem dX11_tune_42 : decode cX11_tune 42 = .ok (.invokestatic 81, 3) := by decide +kernel
theorem dX11_tune_45 : decode cX11_tune 45 = .ok (.ifCond .eq 21, 3) := by decide +kernel
theorem dX11_tune_48 : decode cX11_tune 48 = .ok (.aload_n 0, 1) := by decide +kernel
theorem dX11_tune_49 : decode cX11_tune 49 = .ok (.getfield 43, 3) := by decide +kernel
theorem dX11_tune_52 : decode cX11_tune 52 = .ok (.getfield 256, 3) := by decide +kernel
theorem dX11_tune_55 : decode cX11_tune 55 = .ok (.istore_n 3, 1) := by decide +kernel
theorem dX11_tune_56 : decode cX11_tune 56 = .ok (.aload_n 0, 1) := by decide +kernel
theorem dX11_tune_57 : decode cX11_tune 57 = .ok (.getfield 43, 3) := by decide +kernel
theorem dX11_tune_60 : decode cX11_tune 60 = .ok (.iload_n 2, 1) := by decide +kernel
theorem dX11_tune_61 : decode cX11_tune 61 = .ok (.putfield 256, 3) := by decide +kernel
theorem dX11_tune_64 : decode cX11_tune 64 = .ok (.iload_n 3, 1) := by decide +kernel
theorem dX11_tune_65 : decode cX11_tune 65 = .ok (.ireturn, 1) := by decide +kernel
theorem dX11_tune_66 : decode cX11_tune 66 = .ok (.bipush (-2), 2) := by decide +kernel
theorem dX11_tune_68 : decode cX11_tune 68 = .ok (.ireturn, 1) := by decide +kernel
theorem dX11_peal_0 : decode cX11_peal 0 = .ok (.aload_n 0, 1) := by decide +kernel
theorem dX11_peal_1 : decode cX11_peal 1 = .ok (.iload_n 1, 1) := by decide +kernel
theorem dX11_peal_2 : decode cX11_peal 2 = .ok (.invokevirtual 96, 3) := by decide +kernel
theorem dX11_peal_5 : decode cX11_peal 5 = .ok (.ifCond .eq 12, 3) := by decide +kernel
theorem dX11_peal_8 : decode cX11_peal 8 = .ok (.iload_n 2, 1) := by decide +kernel
theorem dX11_peal_9 : decode cX11_peal 9 = .ok (.iconst 0, 1) := by decide +kernel
theorem dX11_peal_10 : decode cX11_peal 10 = .ok (.iconst 5, 1) := by decide +kernel
theorem dX11_peal_11 : decode cX11_peal 11 = .ok (.invokestatic 81, 3) := by decide +kernel
theorem dX11_peal_14 : decode cX11_peal 14 = .ok (.ifCond .ne 7, 3) := by decide +kernel
theorem dX11_peal_17 : decode cX11_peal 17 = .ok (.sipush (-1000), 3) := by decide +kernel
theorem dX11_peal_20 : decode cX11_peal 20 = .ok (.ireturn, 1) := by decide +kernel
theorem dX11_peal_21 : decode cX11_peal 21 = .ok (.aload_n 0, 1) := by decide +kernel
theorem dX11_peal_22 : decode cX11_peal 22 = .ok (.getfield 43, 3) := by decide +kernel
theorem dX11_peal_25 : decode cX11_peal 25 = .ok (.aload_n 0, 1) := by decide +kernel
theorem dX11_peal_26 : decode cX11_peal 26 = .ok (.getfield 16, 3) := by decide +kernel
theorem dX11_peal_29 : decode cX11_peal 29 = .ok (.iload_n 1, 1) := by decide +kernel
theorem dX11_peal_30 : decode cX11_peal 30 = .ok (.invokevirtual 259, 3) := by decide +kernel
theorem dX11_peal_33 : decode cX11_peal 33 = .ok (.aload_n 0, 1) := by decide +kernel
theorem dX11_peal_34 : decode cX11_peal 34 = .ok (.getfield 43, 3) := by decide +kernel
theorem dX11_peal_37 : decode cX11_peal 37 = .ok (.aload_n 0, 1) := by decide +kernel
theorem dX11_peal_38 : decode cX11_peal 38 = .ok (.getfield 16, 3) := by decide +kernel
theorem dX11_peal_41 : decode cX11_peal 41 = .ok (.iload_n 2, 1) := by decide +kernel
theorem dX11_peal_42 : decode cX11_peal 42 = .ok (.invokevirtual 263, 3) := by decide +kernel
theorem dX11_peal_45 : decode cX11_peal 45 = .ok (.ireturn, 1) := by decide +kernel
theorem dX11_step_0 : decode cX11_step 0 = .ok (.aload_n 0, 1) := by decide +kernel
theorem dX11_step_1 : decode cX11_step 1 = .ok (.iload_n 1, 1) := by decide +kernel
theorem dX11_step_2 : decode cX11_step 2 = .ok (.invokevirtual 96, 3) := by decide +kernel
theorem dX11_step_5 : decode cX11_step 5 = .ok (.ifCond .eq 14, 3) := by decide +kernel
theorem dX11_step_8 : decode cX11_step 8 = .ok (.aload_n 0, 1) := by decide +kernel
theorem dX11_step_9 : decode cX11_step 9 = .ok (.getfield 16, 3) := by decide +kernel
theorem dX11_step_12 : decode cX11_step 12 = .ok (.iload_n 2, 1) := by decide +kernel
theorem dX11_step_13 : decode cX11_step 13 = .ok (.invokevirtual 137, 3) := by decide +kernel
theorem dX11_step_16 : decode cX11_step 16 = .ok (.ifCond .ne 6, 3) := by decide +kernel
theorem dX11_step_19 : decode cX11_step 19 = .ok (.bipush (-2), 2) := by decide +kernel
theorem dX11_step_21 : decode cX11_step 21 = .ok (.ireturn, 1) := by decide +kernel
theorem dX11_step_22 : decode cX11_step 22 = .ok (.aload_n 0, 1) := by decide +kernel
theorem dX11_step_23 : decode cX11_step 23 = .ok (.getfield 43, 3) := by decide +kernel
theorem dX11_step_26 : decode cX11_step 26 = .ok (.aload_n 0, 1) := by decide +kernel
theorem dX11_step_27 : decode cX11_step 27 = .ok (.getfield 16, 3) := by decide +kernel
theorem dX11_step_30 : decode cX11_step 30 = .ok (.iload_n 1, 1) := by decide +kernel
theorem dX11_step_31 : decode cX11_step 31 = .ok (.invokevirtual 259, 3) := by decide +kernel
theorem dX11_step_34 : decode cX11_step 34 = .ok (.aload_n 0, 1) := by decide +kernel
theorem dX11_step_35 : decode cX11_step 35 = .ok (.getfield 43, 3) := by decide +kernel
theorem dX11_step_38 : decode cX11_step 38 = .ok (.aload_n 0, 1) := by decide +kernel
theorem dX11_step_39 : decode cX11_step 39 = .ok (.getfield 16, 3) := by decide +kernel
theorem dX11_step_42 : decode cX11_step 42 = .ok (.getfield 140, 3) := by decide +kernel
theorem dX11_step_45 : decode cX11_step 45 = .ok (.iload_n 2, 1) := by decide +kernel
theorem dX11_step_46 : decode cX11_step 46 = .ok (.aaload, 1) := by decide +kernel
theorem dX11_step_47 : decode cX11_step 47 = .ok (.invokevirtual 267, 3) := by decide +kernel
theorem dX11_step_50 : decode cX11_step 50 = .ok (.ireturn, 1) := by decide +kernel
theorem dX11_batch_0 : decode cX11_batch 0 = .ok (.iload_n 3, 1) := by decide +kernel
theorem dX11_batch_1 : decode cX11_batch 1 = .ok (.iconst 0, 1) := by decide +kernel
theorem dX11_batch_2 : decode cX11_batch 2 = .ok (.bipush 100, 2) := by decide +kernel
theorem dX11_batch_4 : decode cX11_batch 4 = .ok (.invokestatic 81, 3) := by decide +kernel
theorem dX11_batch_7 : decode cX11_batch 7 = .ok (.ifCond .eq 24, 3) := by decide +kernel
theorem dX11_batch_10 : decode cX11_batch 10 = .ok (.iload 4, 2) := by decide +kernel
theorem dX11_batch_12 : decode cX11_batch 12 = .ok (.iconst 0, 1) := by decide +kernel
theorem dX11_batch_13 : decode cX11_batch 13 = .ok (.bipush 100, 2) := by decide +kernel
theorem dX11_batch_15 : decode cX11_batch 15 = .ok (.invokestatic 81, 3) := by decide +kernel
theorem dX11_batch_18 : decode cX11_batch 18 = .ok (.ifCond .eq 13, 3) := by decide +kernel
theorem dX11_batch_21 : decode cX11_batch 21 = .ok (.iload_n 3, 1) := by decide +kernel
theorem dX11_batch_22 : decode cX11_batch 22 = .ok (.iload 4, 2) := by decide +kernel
theorem dX11_batch_24 : decode cX11_batch 24 = .ok (.if_icmp .gt 7, 3) := by decide +kernel
theorem dX11_batch_27 : decode cX11_batch 27 = .ok (.iconst 1, 1) := by decide +kernel
theorem dX11_batch_28 : decode cX11_batch 28 = .ok (.goto 4, 3) := by decide +kernel
theorem dX11_batch_31 : decode cX11_batch 31 = .ok (.iconst 0, 1) := by decide +kernel
theorem dX11_batch_32 : decode cX11_batch 32 = .ok (.istore 6, 2) := by decide +kernel
theorem dX11_batch_34 : decode cX11_batch 34 = .ok (.iload_n 1, 1) := by decide +kernel
theorem dX11_batch_35 : decode cX11_batch 35 = .ok (.iconst 0, 1) := by decide +kernel
theorem dX11_batch_36 : decode cX11_batch 36 = .ok (.ldc_w 270, 3) := by decide +kernel
theorem dX11_batch_39 : decode cX11_batch 39 = .ok (.invokestatic 81, 3) := by decide +kernel
theorem dX11_batch_42 : decode cX11_batch 42 = .ok (.ifCond .eq 28, 3) := by decide +kernel
theorem dX11_batch_45 : decode cX11_batch 45 = .ok (.iload_n 2, 1) := by decide +kernel
theorem dX11_batch_46 : decode cX11_batch 46 = .ok (.iconst 0, 1) := by decide +kernel
theorem dX11_batch_47 : decode cX11_batch 47 = .ok (.sipush 9999, 3) := by decide +kernel
theorem dX11_batch_50 : decode cX11_batch 50 = .ok (.invokestatic 81, 3) := by decide +kernel
theorem dX11_batch_53 : decode cX11_batch 53 = .ok (.ifCond .eq 17, 3) := by decide +kernel
theorem dX11_batch_56 : decode cX11_batch 56 = .ok (.iload 6, 2) := by decide +kernel
theorem dX11_batch_58 : decode cX11_batch 58 = .ok (.ifCond .eq 12, 3) := by decide +kernel
theorem dX11_batch_61 : decode cX11_batch 61 = .ok (.aload_n 0, 1) := by decide +kernel
theorem dX11_batch_62 : decode cX11_batch 62 = .ok (.iload 5, 2) := by decide +kernel
theorem dX11_batch_64 : decode cX11_batch 64 = .ok (.invokevirtual 271, 3) := by decide +kernel
theorem dX11_batch_67 : decode cX11_batch 67 = .ok (.ifCond .ne 6, 3) := by decide +kernel
theorem dX11_batch_70 : decode cX11_batch 70 = .ok (.bipush (-2), 2) := by decide +kernel
theorem dX11_batch_72 : decode cX11_batch 72 = .ok (.ireturn, 1) := by decide +kernel
theorem dX11_batch_73 : decode cX11_batch 73 = .ok (.aload_n 0, 1) := by decide +kernel
theorem dX11_batch_74 : decode cX11_batch 74 = .ok (.getfield 274, 3) := by decide +kernel
theorem dX11_batch_77 : decode cX11_batch 77 = .ok (.bipush 6, 2) := by decide +kernel
theorem dX11_batch_79 : decode cX11_batch 79 = .ok (.if_icmp .lt 6, 3) := by decide +kernel
theorem dX11_batch_82 : decode cX11_batch 82 = .ok (.bipush (-4), 2) := by decide +kernel
theorem dX11_batch_84 : decode cX11_batch 84 = .ok (.ireturn, 1) := by decide +kernel
theorem dX11_batch_85 : decode cX11_batch 85 = .ok (.new 47, 3) := by decide +kernel
theorem dX11_batch_88 : decode cX11_batch 88 = .ok (.dup, 1) := by decide +kernel
theorem dX11_batch_89 : decode cX11_batch 89 = .ok (.iload_n 1, 1) := by decide +kernel
theorem dX11_batch_90 : decode cX11_batch 90 = .ok (.iload_n 2, 1) := by decide +kernel
theorem dX11_batch_91 : decode cX11_batch 91 = .ok (.iload_n 3, 1) := by decide +kernel
theorem dX11_batch_92 : decode cX11_batch 92 = .ok (.iload 4, 2) := by decide +kernel
theorem dX11_batch_94 : decode cX11_batch 94 = .ok (.invokespecial 277, 3) := by decide +kernel
theorem dX11_batch_97 : decode cX11_batch 97 = .ok (.astore 7, 2) := by decide +kernel
theorem dX11_batch_99 : decode cX11_batch 99 = .ok (.aload 7, 2) := by decide +kernel
theorem dX11_batch_101 : decode cX11_batch 101 = .ok (.aload_n 0, 1) := by decide +kernel
theorem dX11_batch_102 : decode cX11_batch 102 = .ok (.getfield 16, 3) := by decide +kernel
theorem dX11_batch_105 : decode cX11_batch 105 = .ok (.iload 5, 2) := by decide +kernel
theorem dX11_batch_107 : decode cX11_batch 107 = .ok (.invokevirtual 278, 3) := by decide +kernel
theorem dX11_batch_110 : decode cX11_batch 110 = .ok (.aload_n 0, 1) := by decide +kernel
theorem dX11_batch_111 : decode cX11_batch 111 = .ok (.getfield 49, 3) := by decide +kernel
theorem dX11_batch_114 : decode cX11_batch 114 = .ok (.aload_n 0, 1) := by decide +kernel
theorem dX11_batch_115 : decode cX11_batch 115 = .ok (.getfield 274, 3) := by decide +kernel
theorem dX11_batch_118 : decode cX11_batch 118 = .ok (.aload 7, 2) := by decide +kernel
theorem dX11_batch_120 : decode cX11_batch 120 = .ok (.aastore, 1) := by decide +kernel
theorem dX11_batch_121 : decode cX11_batch 121 = .ok (.aload_n 0, 1) := by decide +kernel
theorem dX11_batch_122 : decode cX11_batch 122 = .ok (.dup, 1) := by decide +kernel
theorem dX11_batch_123 : decode cX11_batch 123 = .ok (.getfield 274, 3) := by decide +kernel
theorem dX11_batch_126 : decode cX11_batch 126 = .ok (.iconst 1, 1) := by decide +kernel
theorem dX11_batch_127 : decode cX11_batch 127 = .ok (.iadd, 1) := by decide +kernel
theorem dX11_batch_128 : decode cX11_batch 128 = .ok (.putfield 274, 3) := by decide +kernel
theorem dX11_batch_131 : decode cX11_batch 131 = .ok (.aload_n 0, 1) := by decide +kernel
theorem dX11_batch_132 : decode cX11_batch 132 = .ok (.getfield 274, 3) := by decide +kernel
theorem dX11_batch_135 : decode cX11_batch 135 = .ok (.iconst 1, 1) := by decide +kernel
theorem dX11_batch_136 : decode cX11_batch 136 = .ok (.isub, 1) := by decide +kernel
theorem dX11_batch_137 : decode cX11_batch 137 = .ok (.ireturn, 1) := by decide +kernel
theorem dX11_sets_0 : decode cX11_sets 0 = .ok (.aload_n 0, 1) := by decide +kernel
theorem dX11_sets_1 : decode cX11_sets 1 = .ok (.iload_n 1, 1) := by decide +kernel
theorem dX11_sets_2 : decode cX11_sets 2 = .ok (.invokevirtual 281, 3) := by decide +kernel
theorem dX11_sets_5 : decode cX11_sets 5 = .ok (.ifCond .eq 12, 3) := by decide +kernel
theorem dX11_sets_8 : decode cX11_sets 8 = .ok (.iload_n 2, 1) := by decide +kernel
theorem dX11_sets_9 : decode cX11_sets 9 = .ok (.iconst 0, 1) := by decide +kernel
theorem dX11_sets_10 : decode cX11_sets 10 = .ok (.iconst 1, 1) := by decide +kernel
theorem dX11_sets_11 : decode cX11_sets 11 = .ok (.invokestatic 81, 3) := by decide +kernel
theorem dX11_sets_14 : decode cX11_sets 14 = .ok (.ifCond .ne 6, 3) := by decide +kernel
theorem dX11_sets_17 : decode cX11_sets 17 = .ok (.bipush (-2), 2) := by decide +kernel
theorem dX11_sets_19 : decode cX11_sets 19 = .ok (.ireturn, 1) := by decide +kernel
theorem dX11_sets_20 : decode cX11_sets 20 = .ok (.iload_n 2, 1) := by decide +kernel
theorem dX11_sets_21 : decode cX11_sets 21 = .ok (.ifCond .ne 15, 3) := by decide +kernel
theorem dX11_sets_24 : decode cX11_sets 24 = .ok (.aload_n 0, 1) := by decide +kernel
theorem dX11_sets_25 : decode cX11_sets 25 = .ok (.getfield 49, 3) := by decide +kernel
theorem dX11_sets_28 : decode cX11_sets 28 = .ok (.iload_n 1, 1) := by decide +kernel
theorem dX11_sets_29 : decode cX11_sets 29 = .ok (.aaload, 1) := by decide +kernel
theorem dX11_sets_30 : decode cX11_sets 30 = .ok (.getfield 284, 3) := by decide +kernel
theorem dX11_sets_33 : decode cX11_sets 33 = .ok (.goto 12, 3) := by decide +kernel
theorem dX11_sets_36 : decode cX11_sets 36 = .ok (.aload_n 0, 1) := by decide +kernel
theorem dX11_sets_37 : decode cX11_sets 37 = .ok (.getfield 49, 3) := by decide +kernel
theorem dX11_sets_40 : decode cX11_sets 40 = .ok (.iload_n 1, 1) := by decide +kernel
theorem dX11_sets_41 : decode cX11_sets 41 = .ok (.aaload, 1) := by decide +kernel
theorem dX11_sets_42 : decode cX11_sets 42 = .ok (.getfield 287, 3) := by decide +kernel
theorem dX11_sets_45 : decode cX11_sets 45 = .ok (.ireturn, 1) := by decide +kernel
theorem dX11_held_0 : decode cX11_held 0 = .ok (.aload_n 0, 1) := by decide +kernel
theorem dX11_held_1 : decode cX11_held 1 = .ok (.iload_n 1, 1) := by decide +kernel
theorem dX11_held_2 : decode cX11_held 2 = .ok (.invokevirtual 281, 3) := by decide +kernel
theorem dX11_held_5 : decode cX11_held 5 = .ok (.ifCond .eq 14, 3) := by decide +kernel
theorem dX11_held_8 : decode cX11_held 8 = .ok (.aload_n 0, 1) := by decide +kernel
theorem dX11_held_9 : decode cX11_held 9 = .ok (.getfield 16, 3) := by decide +kernel
theorem dX11_held_12 : decode cX11_held 12 = .ok (.iload_n 2, 1) := by decide +kernel
theorem dX11_held_13 : decode cX11_held 13 = .ok (.invokevirtual 137, 3) := by decide +kernel
theorem dX11_held_16 : decode cX11_held 16 = .ok (.ifCond .ne 6, 3) := by decide +kernel
theorem dX11_held_19 : decode cX11_held 19 = .ok (.bipush (-2), 2) := by decide +kernel
theorem dX11_held_21 : decode cX11_held 21 = .ok (.ireturn, 1) := by decide +kernel
theorem dX11_held_22 : decode cX11_held 22 = .ok (.aload_n 0, 1) := by decide +kernel
theorem dX11_held_23 : decode cX11_held 23 = .ok (.getfield 49, 3) := by decide +kernel
theorem dX11_held_26 : decode cX11_held 26 = .ok (.iload_n 1, 1) := by decide +kernel
theorem dX11_held_27 : decode cX11_held 27 = .ok (.aaload, 1) := by decide +kernel
theorem dX11_held_28 : decode cX11_held 28 = .ok (.getfield 290, 3) := by decide +kernel
theorem dX11_held_31 : decode cX11_held 31 = .ok (.iload_n 2, 1) := by decide +kernel
theorem dX11_held_32 : decode cX11_held 32 = .ok (.ishr, 1) := by decide +kernel
theorem dX11_held_33 : decode cX11_held 33 = .ok (.iconst 1, 1) := by decide +kernel
theorem dX11_held_34 : decode cX11_held 34 = .ok (.iand, 1) := by decide +kernel
theorem dX11_held_35 : decode cX11_held 35 = .ok (.iconst 1, 1) := by decide +kernel
theorem dX11_held_36 : decode cX11_held 36 = .ok (.if_icmp .ne 5, 3) := by decide +kernel
theorem dX11_held_39 : decode cX11_held 39 = .ok (.iconst 2, 1) := by decide +kernel
theorem dX11_held_40 : decode cX11_held 40 = .ok (.ireturn, 1) := by decide +kernel
theorem dX11_held_41 : decode cX11_held 41 = .ok (.aload_n 0, 1) := by decide +kernel
theorem dX11_held_42 : decode cX11_held 42 = .ok (.getfield 49, 3) := by decide +kernel
theorem dX11_held_45 : decode cX11_held 45 = .ok (.iload_n 1, 1) := by decide +kernel
theorem dX11_held_46 : decode cX11_held 46 = .ok (.aaload, 1) := by decide +kernel
theorem dX11_held_47 : decode cX11_held 47 = .ok (.getfield 293, 3) := by decide +kernel
theorem dX11_held_50 : decode cX11_held 50 = .ok (.iload_n 2, 1) := by decide +kernel
theorem dX11_held_51 : decode cX11_held 51 = .ok (.ishr, 1) := by decide +kernel
theorem dX11_held_52 : decode cX11_held 52 = .ok (.iconst 1, 1) := by decide +kernel
theorem dX11_held_53 : decode cX11_held 53 = .ok (.iand, 1) := by decide +kernel
theorem dX11_held_54 : decode cX11_held 54 = .ok (.ireturn, 1) := by decide +kernel
theorem dX11_melts_0 : decode cX11_melts 0 = .ok (.iload_n 1, 1) := by decide +kernel
theorem dX11_melts_1 : decode cX11_melts 1 = .ok (.invokestatic 116, 3) := by decide +kernel
theorem dX11_melts_4 : decode cX11_melts 4 = .ok (.ifCond .eq 14, 3) := by decide +kernel
theorem dX11_melts_7 : decode cX11_melts 7 = .ok (.aload_n 0, 1) := by decide +kernel
theorem dX11_melts_8 : decode cX11_melts 8 = .ok (.getfield 16, 3) := by decide +kernel
theorem dX11_melts_11 : decode cX11_melts 11 = .ok (.iload_n 2, 1) := by decide +kernel
theorem dX11_melts_12 : decode cX11_melts 12 = .ok (.invokevirtual 137, 3) := by decide +kernel
theorem dX11_melts_15 : decode cX11_melts 15 = .ok (.ifCond .ne 6, 3) := by decide +kernel
theorem dX11_melts_18 : decode cX11_melts 18 = .ok (.bipush (-2), 2) := by decide +kernel
theorem dX11_melts_20 : decode cX11_melts 20 = .ok (.ireturn, 1) := by decide +kernel
theorem dX11_melts_21 : decode cX11_melts 21 = .ok (.aload_n 0, 1) := by decide +kernel
theorem dX11_melts_22 : decode cX11_melts 22 = .ok (.getfield 76, 3) := by decide +kernel
theorem dX11_melts_25 : decode cX11_melts 25 = .ok (.iload_n 1, 1) := by decide +kernel
theorem dX11_melts_26 : decode cX11_melts 26 = .ok (.aaload, 1) := by decide +kernel
theorem dX11_melts_27 : decode cX11_melts 27 = .ok (.getfield 119, 3) := by decide +kernel
theorem dX11_melts_30 : decode cX11_melts 30 = .ok (.ifCond .eq 9, 3) := by decide +kernel
theorem dX11_melts_33 : decode cX11_melts 33 = .ok (.aload_n 0, 1) := by decide +kernel
theorem dX11_melts_34 : decode cX11_melts 34 = .ok (.iconst 1, 1) := by decide +kernel
theorem dX11_melts_35 : decode cX11_melts 35 = .ok (.invokevirtual 123, 3) := by decide +kernel
theorem dX11_melts_38 : decode cX11_melts 38 = .ok (.ireturn, 1) := by decide +kernel
theorem dX11_melts_39 : decode cX11_melts 39 = .ok (.aload_n 0, 1) := by decide +kernel
theorem dX11_melts_40 : decode cX11_melts 40 = .ok (.getfield 56, 3) := by decide +kernel
theorem dX11_melts_43 : decode cX11_melts 43 = .ok (.aload_n 0, 1) := by decide +kernel
theorem dX11_melts_44 : decode cX11_melts 44 = .ok (.getfield 16, 3) := by decide +kernel
theorem dX11_melts_47 : decode cX11_melts 47 = .ok (.aload_n 0, 1) := by decide +kernel
theorem dX11_melts_48 : decode cX11_melts 48 = .ok (.getfield 23, 3) := by decide +kernel
theorem dX11_melts_51 : decode cX11_melts 51 = .ok (.aload_n 0, 1) := by decide +kernel
theorem dX11_melts_52 : decode cX11_melts 52 = .ok (.getfield 76, 3) := by decide +kernel
theorem dX11_melts_55 : decode cX11_melts 55 = .ok (.iload_n 1, 1) := by decide +kernel
theorem dX11_melts_56 : decode cX11_melts 56 = .ok (.aaload, 1) := by decide +kernel
theorem dX11_melts_57 : decode cX11_melts 57 = .ok (.invokevirtual 296, 3) := by decide +kernel
theorem dX11_melts_60 : decode cX11_melts 60 = .ok (.aload_n 0, 1) := by decide +kernel
theorem dX11_melts_61 : decode cX11_melts 61 = .ok (.getfield 56, 3) := by decide +kernel
theorem dX11_melts_64 : decode cX11_melts 64 = .ok (.getfield 300, 3) := by decide +kernel
theorem dX11_melts_67 : decode cX11_melts 67 = .ok (.iload_n 2, 1) := by decide +kernel
theorem dX11_melts_68 : decode cX11_melts 68 = .ok (.iaload, 1) := by decide +kernel
theorem dX11_melts_69 : decode cX11_melts 69 = .ok (.ireturn, 1) := by decide +kernel
theorem dX11_shorts_0 : decode cX11_shorts 0 = .ok (.iload_n 1, 1) := by decide +kernel
theorem dX11_shorts_1 : decode cX11_shorts 1 = .ok (.invokestatic 116, 3) := by decide +kernel
theorem dX11_shorts_4 : decode cX11_shorts 4 = .ok (.ifCond .eq 12, 3) := by decide +kernel
theorem dX11_shorts_7 : decode cX11_shorts 7 = .ok (.iload_n 2, 1) := by decide +kernel
theorem dX11_shorts_8 : decode cX11_shorts 8 = .ok (.iconst 0, 1) := by decide +kernel
theorem dX11_shorts_9 : decode cX11_shorts 9 = .ok (.iconst 2, 1) := by decide +kernel
theorem dX11_shorts_10 : decode cX11_shorts 10 = .ok (.invokestatic 81, 3) := by decide +kernel
theorem dX11_shorts_13 : decode cX11_shorts 13 = .ok (.ifCond .ne 6, 3) := by decide +kernel
theorem dX11_shorts_16 : decode cX11_shorts 16 = .ok (.bipush (-2), 2) := by decide +kernel
theorem dX11_shorts_18 : decode cX11_shorts 18 = .ok (.ireturn, 1) := by decide +kernel
theorem dX11_shorts_19 : decode cX11_shorts 19 = .ok (.aload_n 0, 1) := by decide +kernel
theorem dX11_shorts_20 : decode cX11_shorts 20 = .ok (.getfield 76, 3) := by decide +kernel
theorem dX11_shorts_23 : decode cX11_shorts 23 = .ok (.iload_n 1, 1) := by decide +kernel
theorem dX11_shorts_24 : decode cX11_shorts 24 = .ok (.aaload, 1) := by decide +kernel
theorem dX11_shorts_25 : decode cX11_shorts 25 = .ok (.getfield 119, 3) := by decide +kernel
theorem dX11_shorts_28 : decode cX11_shorts 28 = .ok (.ifCond .eq 9, 3) := by decide +kernel
theorem dX11_shorts_31 : decode cX11_shorts 31 = .ok (.aload_n 0, 1) := by decide +kernel
theorem dX11_shorts_32 : decode cX11_shorts 32 = .ok (.iconst 1, 1) := by decide +kernel
theorem dX11_shorts_33 : decode cX11_shorts 33 = .ok (.invokevirtual 123, 3) := by decide +kernel
theorem dX11_shorts_36 : decode cX11_shorts 36 = .ok (.ireturn, 1) := by decide +kernel
theorem dX11_shorts_37 : decode cX11_shorts 37 = .ok (.aload_n 0, 1) := by decide +kernel
theorem dX11_shorts_38 : decode cX11_shorts 38 = .ok (.getfield 56, 3) := by decide +kernel
theorem dX11_shorts_41 : decode cX11_shorts 41 = .ok (.aload_n 0, 1) := by decide +kernel
theorem dX11_shorts_42 : decode cX11_shorts 42 = .ok (.getfield 16, 3) := by decide +kernel
theorem dX11_shorts_45 : decode cX11_shorts 45 = .ok (.aload_n 0, 1) := by decide +kernel
theorem dX11_shorts_46 : decode cX11_shorts 46 = .ok (.getfield 23, 3) := by decide +kernel
theorem dX11_shorts_49 : decode cX11_shorts 49 = .ok (.aload_n 0, 1) := by decide +kernel
theorem dX11_shorts_50 : decode cX11_shorts 50 = .ok (.getfield 76, 3) := by decide +kernel
theorem dX11_shorts_53 : decode cX11_shorts 53 = .ok (.iload_n 1, 1) := by decide +kernel
theorem dX11_shorts_54 : decode cX11_shorts 54 = .ok (.aaload, 1) := by decide +kernel
theorem dX11_shorts_55 : decode cX11_shorts 55 = .ok (.invokevirtual 296, 3) := by decide +kernel
theorem dX11_shorts_58 : decode cX11_shorts 58 = .ok (.iload_n 2, 1) := by decide +kernel
theorem dX11_shorts_59 : decode cX11_shorts 59 = .ok (.ifCond .ne 18, 3) := by decide +kernel
theorem dX11_shorts_62 : decode cX11_shorts 62 = .ok (.aload_n 0, 1) := by decide +kernel
theorem dX11_shorts_63 : decode cX11_shorts 63 = .ok (.getfield 56, 3) := by decide +kernel
theorem dX11_shorts_66 : decode cX11_shorts 66 = .ok (.getfield 303, 3) := by decide +kernel
theorem dX11_shorts_69 : decode cX11_shorts 69 = .ok (.ldc2_w 307, 3) := by decide +kernel
theorem dX11_shorts_72 : decode cX11_shorts 72 = .ok (.invokestatic 309, 3) := by decide +kernel
theorem dX11_shorts_75 : decode cX11_shorts 75 = .ok (.l2i, 1) := by decide +kernel
theorem dX11_shorts_76 : decode cX11_shorts 76 = .ok (.ireturn, 1) := by decide +kernel
theorem dX11_shorts_77 : decode cX11_shorts 77 = .ok (.iload_n 2, 1) := by decide +kernel
theorem dX11_shorts_78 : decode cX11_shorts 78 = .ok (.iconst 1, 1) := by decide +kernel
theorem dX11_shorts_79 : decode cX11_shorts 79 = .ok (.if_icmp .ne 13, 3) := by decide +kernel
theorem dX11_shorts_82 : decode cX11_shorts 82 = .ok (.aload_n 0, 1) := by decide +kernel
theorem dX11_shorts_83 : decode cX11_shorts 83 = .ok (.getfield 56, 3) := by decide +kernel
theorem dX11_shorts_86 : decode cX11_shorts 86 = .ok (.getfield 315, 3) := by decide +kernel
theorem dX11_shorts_89 : decode cX11_shorts 89 = .ok (.goto 10, 3) := by decide +kernel
theorem dX11_shorts_92 : decode cX11_shorts 92 = .ok (.aload_n 0, 1) := by decide +kernel
theorem dX11_shorts_93 : decode cX11_shorts 93 = .ok (.getfield 56, 3) := by decide +kernel
theorem dX11_shorts_96 : decode cX11_shorts 96 = .ok (.getfield 318, 3) := by decide +kernel
theorem dX11_shorts_99 : decode cX11_shorts 99 = .ok (.ireturn, 1) := by decide +kernel
theorem dX11_send_0 : decode cX11_send 0 = .ok (.aload_n 0, 1) := by decide +kernel
theorem dX11_send_1 : decode cX11_send 1 = .ok (.getfield 16, 3) := by decide +kernel
theorem dX11_send_4 : decode cX11_send 4 = .ok (.iload_n 1, 1) := by decide +kernel
theorem dX11_send_5 : decode cX11_send 5 = .ok (.invokevirtual 137, 3) := by decide +kernel
theorem dX11_send_8 : decode cX11_send 8 = .ok (.ifCond .ne 6, 3) := by decide +kernel
theorem dX11_send_11 : decode cX11_send 11 = .ok (.bipush (-2), 2) := by decide +kernel
theorem dX11_send_13 : decode cX11_send 13 = .ok (.ireturn, 1) := by decide +kernel
theorem dX11_send_14 : decode cX11_send 14 = .ok (.aload_n 0, 1) := by decide +kernel
theorem dX11_send_15 : decode cX11_send 15 = .ok (.getfield 16, 3) := by decide +kernel
theorem dX11_send_18 : decode cX11_send 18 = .ok (.getfield 140, 3) := by decide +kernel
theorem dX11_send_21 : decode cX11_send 21 = .ok (.iload_n 1, 1) := by decide +kernel
theorem dX11_send_22 : decode cX11_send 22 = .ok (.aaload, 1) := by decide +kernel
theorem dX11_send_23 : decode cX11_send 23 = .ok (.astore 4, 2) := by decide +kernel
theorem dX11_send_25 : decode cX11_send 25 = .ok (.iload_n 2, 1) := by decide +kernel
theorem dX11_send_26 : decode cX11_send 26 = .ok (.ifCond .ne 29, 3) := by decide +kernel
theorem dX11_send_29 : decode cX11_send 29 = .ok (.iload_n 3, 1) := by decide +kernel
theorem dX11_send_30 : decode cX11_send 30 = .ok (.iconst 1, 1) := by decide +kernel
theorem dX11_send_31 : decode cX11_send 31 = .ok (.bipush 99, 2) := by decide +kernel
theorem dX11_send_33 : decode cX11_send 33 = .ok (.invokestatic 81, 3) := by decide +kernel
theorem dX11_send_36 : decode cX11_send 36 = .ok (.ifCond .eq 19, 3) := by decide +kernel
theorem dX11_send_39 : decode cX11_send 39 = .ok (.aload 4, 2) := by decide +kernel
theorem dX11_send_41 : decode cX11_send 41 = .ok (.getfield 169, 3) := by decide +kernel
theorem dX11_send_44 : decode cX11_send 44 = .ok (.istore 5, 2) := by decide +kernel
theorem dX11_send_46 : decode cX11_send 46 = .ok (.aload 4, 2) := by decide +kernel
theorem dX11_send_48 : decode cX11_send 48 = .ok (.iload_n 3, 1) := by decide +kernel
theorem dX11_send_49 : decode cX11_send 49 = .ok (.putfield 169, 3) := by decide +kernel
theorem dX11_send_52 : decode cX11_send 52 = .ok (.iload 5, 2) := by decide +kernel
theorem dX11_send_54 : decode cX11_send 54 = .ok (.ireturn, 1) := by decide +kernel
theorem dX11_send_55 : decode cX11_send 55 = .ok (.iload_n 2, 1) := by decide +kernel
theorem dX11_send_56 : decode cX11_send 56 = .ok (.iconst 1, 1) := by decide +kernel
theorem dX11_send_57 : decode cX11_send 57 = .ok (.if_icmp .ne 30, 3) := by decide +kernel
theorem dX11_send_60 : decode cX11_send 60 = .ok (.iload_n 3, 1) := by decide +kernel
theorem dX11_send_61 : decode cX11_send 61 = .ok (.iconst 0, 1) := by decide +kernel
theorem dX11_send_62 : decode cX11_send 62 = .ok (.sipush 999, 3) := by decide +kernel
theorem dX11_send_65 : decode cX11_send 65 = .ok (.invokestatic 81, 3) := by decide +kernel
theorem dX11_send_68 : decode cX11_send 68 = .ok (.ifCond .eq 19, 3) := by decide +kernel
theorem dX11_send_71 : decode cX11_send 71 = .ok (.aload 4, 2) := by decide +kernel
theorem dX11_send_73 : decode cX11_send 73 = .ok (.getfield 172, 3) := by decide +kernel
theorem dX11_send_76 : decode cX11_send 76 = .ok (.istore 5, 2) := by decide +kernel
theorem dX11_send_78 : decode cX11_send 78 = .ok (.aload 4, 2) := by decide +kernel
theorem dX11_send_80 : decode cX11_send 80 = .ok (.iload_n 3, 1) := by decide +kernel
theorem dX11_send_81 : decode cX11_send 81 = .ok (.putfield 172, 3) := by decide +kernel
theorem dX11_send_84 : decode cX11_send 84 = .ok (.iload 5, 2) := by decide +kernel
theorem dX11_send_86 : decode cX11_send 86 = .ok (.ireturn, 1) := by decide +kernel
theorem dX11_send_87 : decode cX11_send 87 = .ok (.bipush (-2), 2) := by decide +kernel
theorem dX11_send_89 : decode cX11_send 89 = .ok (.ireturn, 1) := by decide +kernel
theorem dX11_sent_0 : decode cX11_sent 0 = .ok (.iload_n 1, 1) := by decide +kernel
theorem dX11_sent_1 : decode cX11_sent 1 = .ok (.iconst 0, 1) := by decide +kernel
theorem dX11_sent_2 : decode cX11_sent 2 = .ok (.iconst 2, 1) := by decide +kernel
theorem dX11_sent_3 : decode cX11_sent 3 = .ok (.invokestatic 81, 3) := by decide +kernel
theorem dX11_sent_6 : decode cX11_sent 6 = .ok (.ifCond .ne 6, 3) := by decide +kernel
theorem dX11_sent_9 : decode cX11_sent 9 = .ok (.bipush (-2), 2) := by decide +kernel
theorem dX11_sent_11 : decode cX11_sent 11 = .ok (.ireturn, 1) := by decide +kernel
theorem dX11_sent_12 : decode cX11_sent 12 = .ok (.aload_n 0, 1) := by decide +kernel
theorem dX11_sent_13 : decode cX11_sent 13 = .ok (.getfield 63, 3) := by decide +kernel
theorem dX11_sent_16 : decode cX11_sent 16 = .ok (.aload_n 0, 1) := by decide +kernel
theorem dX11_sent_17 : decode cX11_sent 17 = .ok (.getfield 16, 3) := by decide +kernel
theorem dX11_sent_20 : decode cX11_sent 20 = .ok (.invokevirtual 321, 3) := by decide +kernel
theorem dX11_sent_23 : decode cX11_sent 23 = .ok (.iload_n 1, 1) := by decide +kernel
theorem dX11_sent_24 : decode cX11_sent 24 = .ok (.ifCond .ne 11, 3) := by decide +kernel
theorem dX11_sent_27 : decode cX11_sent 27 = .ok (.aload_n 0, 1) := by decide +kernel
theorem dX11_sent_28 : decode cX11_sent 28 = .ok (.getfield 63, 3) := by decide +kernel
theorem dX11_sent_31 : decode cX11_sent 31 = .ok (.getfield 324, 3) := by decide +kernel
theorem dX11_sent_34 : decode cX11_sent 34 = .ok (.ireturn, 1) := by decide +kernel
theorem dX11_sent_35 : decode cX11_sent 35 = .ok (.iload_n 1, 1) := by decide +kernel
theorem dX11_sent_36 : decode cX11_sent 36 = .ok (.iconst 1, 1) := by decide +kernel
theorem dX11_sent_37 : decode cX11_sent 37 = .ok (.if_icmp .ne 13, 3) := by decide +kernel
theorem dX11_sent_40 : decode cX11_sent 40 = .ok (.aload_n 0, 1) := by decide +kernel
theorem dX11_sent_41 : decode cX11_sent 41 = .ok (.getfield 63, 3) := by decide +kernel
theorem dX11_sent_44 : decode cX11_sent 44 = .ok (.getfield 327, 3) := by decide +kernel
theorem dX11_sent_47 : decode cX11_sent 47 = .ok (.goto 10, 3) := by decide +kernel
theorem dX11_sent_50 : decode cX11_sent 50 = .ok (.aload_n 0, 1) := by decide +kernel
theorem dX11_sent_51 : decode cX11_sent 51 = .ok (.getfield 63, 3) := by decide +kernel
theorem dX11_sent_54 : decode cX11_sent 54 = .ok (.getfield 330, 3) := by decide +kernel
theorem dX11_sent_57 : decode cX11_sent 57 = .ok (.ireturn, 1) := by decide +kernel
theorem dX11_claim_0 : decode cX11_claim 0 = .ok (.aload_n 0, 1) := by decide +kernel
theorem dX11_claim_1 : decode cX11_claim 1 = .ok (.iload_n 1, 1) := by decide +kernel
theorem dX11_claim_2 : decode cX11_claim 2 = .ok (.invokevirtual 96, 3) := by decide +kernel
theorem dX11_claim_5 : decode cX11_claim 5 = .ok (.ifCond .eq 29, 3) := by decide +kernel
theorem dX11_claim_8 : decode cX11_claim 8 = .ok (.aload_n 0, 1) := by decide +kernel
theorem dX11_claim_9 : decode cX11_claim 9 = .ok (.getfield 16, 3) := by decide +kernel
theorem dX11_claim_12 : decode cX11_claim 12 = .ok (.iload_n 2, 1) := by decide +kernel
theorem dX11_claim_13 : decode cX11_claim 13 = .ok (.invokevirtual 137, 3) := by decide +kernel
theorem dX11_claim_16 : decode cX11_claim 16 = .ok (.ifCond .eq 18, 3) := by decide +kernel
theorem dX11_claim_19 : decode cX11_claim 19 = .ok (.iload_n 3, 1) := by decide +kernel
theorem dX11_claim_20 : decode cX11_claim 20 = .ok (.invokestatic 333, 3) := by decide +kernel
theorem dX11_claim_23 : decode cX11_claim 23 = .ok (.ifCond .eq 11, 3) := by decide +kernel
theorem dX11_claim_26 : decode cX11_claim 26 = .ok (.iload 4, 2) := by decide +kernel
theorem dX11_claim_28 : decode cX11_claim 28 = .ok (.invokestatic 199, 3) := by decide +kernel
theorem dX11_claim_31 : decode cX11_claim 31 = .ok (.ifCond .ne 6, 3) := by decide +kernel
theorem dX11_claim_34 : decode cX11_claim 34 = .ok (.bipush (-2), 2) := by decide +kernel
theorem dX11_claim_36 : decode cX11_claim 36 = .ok (.ireturn, 1) := by decide +kernel
theorem dX11_claim_37 : decode cX11_claim 37 = .ok (.aload_n 0, 1) := by decide +kernel
theorem dX11_claim_38 : decode cX11_claim 38 = .ok (.getfield 70, 3) := by decide +kernel
theorem dX11_claim_41 : decode cX11_claim 41 = .ok (.getfield 336, 3) := by decide +kernel
theorem dX11_claim_44 : decode cX11_claim 44 = .ok (.bipush 30, 2) := by decide +kernel
theorem dX11_claim_46 : decode cX11_claim 46 = .ok (.if_icmp .lt 6, 3) := by decide +kernel
theorem dX11_claim_49 : decode cX11_claim 49 = .ok (.bipush (-4), 2) := by decide +kernel
theorem dX11_claim_51 : decode cX11_claim 51 = .ok (.ireturn, 1) := by decide +kernel
theorem dX11_claim_52 : decode cX11_claim 52 = .ok (.aload_n 0, 1) := by decide +kernel
theorem dX11_claim_53 : decode cX11_claim 53 = .ok (.getfield 70, 3) := by decide +kernel
theorem dX11_claim_56 : decode cX11_claim 56 = .ok (.iload_n 1, 1) := by decide +kernel
theorem dX11_claim_57 : decode cX11_claim 57 = .ok (.iload_n 2, 1) := by decide +kernel
theorem dX11_claim_58 : decode cX11_claim 58 = .ok (.iload_n 3, 1) := by decide +kernel
theorem dX11_claim_59 : decode cX11_claim 59 = .ok (.iload 4, 2) := by decide +kernel
theorem dX11_claim_61 : decode cX11_claim 61 = .ok (.invokevirtual 337, 3) := by decide +kernel
theorem dX11_claim_64 : decode cX11_claim 64 = .ok (.aload_n 0, 1) := by decide +kernel
theorem dX11_claim_65 : decode cX11_claim 65 = .ok (.getfield 70, 3) := by decide +kernel
theorem dX11_claim_68 : decode cX11_claim 68 = .ok (.getfield 336, 3) := by decide +kernel
theorem dX11_claim_71 : decode cX11_claim 71 = .ok (.ireturn, 1) := by decide +kernel
theorem dX11_rank_0 : decode cX11_rank 0 = .ok (.iload_n 1, 1) := by decide +kernel
theorem dX11_rank_1 : decode cX11_rank 1 = .ok (.invokestatic 333, 3) := by decide +kernel
theorem dX11_rank_4 : decode cX11_rank 4 = .ok (.ifCond .eq 13, 3) := by decide +kernel
theorem dX11_rank_7 : decode cX11_rank 7 = .ok (.iload_n 2, 1) := by decide +kernel
theorem dX11_rank_8 : decode cX11_rank 8 = .ok (.iconst 0, 1) := by decide +kernel
theorem dX11_rank_9 : decode cX11_rank 9 = .ok (.bipush 9, 2) := by decide +kernel
theorem dX11_rank_11 : decode cX11_rank 11 = .ok (.invokestatic 81, 3) := by decide +kernel
theorem dX11_rank_14 : decode cX11_rank 14 = .ok (.ifCond .ne 6, 3) := by decide +kernel
theorem dX11_rank_17 : decode cX11_rank 17 = .ok (.bipush (-2), 2) := by decide +kernel
theorem dX11_rank_19 : decode cX11_rank 19 = .ok (.ireturn, 1) := by decide +kernel
theorem dX11_rank_20 : decode cX11_rank 20 = .ok (.aload_n 0, 1) := by decide +kernel
theorem dX11_rank_21 : decode cX11_rank 21 = .ok (.getfield 70, 3) := by decide +kernel
theorem dX11_rank_24 : decode cX11_rank 24 = .ok (.getfield 339, 3) := by decide +kernel
theorem dX11_rank_27 : decode cX11_rank 27 = .ok (.iload_n 1, 1) := by decide +kernel
theorem dX11_rank_28 : decode cX11_rank 28 = .ok (.iaload, 1) := by decide +kernel
theorem dX11_rank_29 : decode cX11_rank 29 = .ok (.istore_n 3, 1) := by decide +kernel
theorem dX11_rank_30 : decode cX11_rank 30 = .ok (.aload_n 0, 1) := by decide +kernel
theorem dX11_rank_31 : decode cX11_rank 31 = .ok (.getfield 70, 3) := by decide +kernel
theorem dX11_rank_34 : decode cX11_rank 34 = .ok (.getfield 339, 3) := by decide +kernel
theorem dX11_rank_37 : decode cX11_rank 37 = .ok (.iload_n 1, 1) := by decide +kernel
theorem dX11_rank_38 : decode cX11_rank 38 = .ok (.iload_n 2, 1) := by decide +kernel
theorem dX11_rank_39 : decode cX11_rank 39 = .ok (.iastore, 1) := by decide +kernel
theorem dX11_rank_40 : decode cX11_rank 40 = .ok (.iload_n 3, 1) := by decide +kernel
theorem dX11_rank_41 : decode cX11_rank 41 = .ok (.ireturn, 1) := by decide +kernel
theorem dX11_whose_0 : decode cX11_whose 0 = .ok (.aload_n 0, 1) := by decide +kernel
theorem dX11_whose_1 : decode cX11_whose 1 = .ok (.getfield 16, 3) := by decide +kernel
theorem dX11_whose_4 : decode cX11_whose 4 = .ok (.iload_n 1, 1) := by decide +kernel
theorem dX11_whose_5 : decode cX11_whose 5 = .ok (.invokevirtual 137, 3) := by decide +kernel
theorem dX11_whose_8 : decode cX11_whose 8 = .ok (.ifCond .eq 10, 3) := by decide +kernel
theorem dX11_whose_11 : decode cX11_whose 11 = .ok (.iload_n 2, 1) := by decide +kernel
theorem dX11_whose_12 : decode cX11_whose 12 = .ok (.invokestatic 199, 3) := by decide +kernel
theorem dX11_whose_15 : decode cX11_whose 15 = .ok (.ifCond .ne 6, 3) := by decide +kernel
theorem dX11_whose_18 : decode cX11_whose 18 = .ok (.bipush (-2), 2) := by decide +kernel
theorem dX11_whose_20 : decode cX11_whose 20 = .ok (.ireturn, 1) := by decide +kernel
theorem dX11_whose_21 : decode cX11_whose 21 = .ok (.aload_n 0, 1) := by decide +kernel
theorem dX11_whose_22 : decode cX11_whose 22 = .ok (.getfield 70, 3) := by decide +kernel
theorem dX11_whose_25 : decode cX11_whose 25 = .ok (.iload_n 1, 1) := by decide +kernel
theorem dX11_whose_26 : decode cX11_whose 26 = .ok (.iload_n 2, 1) := by decide +kernel
theorem dX11_whose_27 : decode cX11_whose 27 = .ok (.invokevirtual 342, 3) := by decide +kernel
theorem dX11_whose_30 : decode cX11_whose 30 = .ok (.ireturn, 1) := by decide +kernel
theorem dX11_lands_0 : decode cX11_lands 0 = .ok (.aload_n 0, 1) := by decide +kernel
theorem dX11_lands_1 : decode cX11_lands 1 = .ok (.getfield 16, 3) := by decide +kernel
theorem dX11_lands_4 : decode cX11_lands 4 = .ok (.iload_n 1, 1) := by decide +kernel
theorem dX11_lands_5 : decode cX11_lands 5 = .ok (.invokevirtual 137, 3) := by decide +kernel
theorem dX11_lands_8 : decode cX11_lands 8 = .ok (.ifCond .eq 10, 3) := by decide +kernel
theorem dX11_lands_11 : decode cX11_lands 11 = .ok (.iload_n 2, 1) := by decide +kernel
theorem dX11_lands_12 : decode cX11_lands 12 = .ok (.invokestatic 199, 3) := by decide +kernel
theorem dX11_lands_15 : decode cX11_lands 15 = .ok (.ifCond .ne 6, 3) := by decide +kernel
theorem dX11_lands_18 : decode cX11_lands 18 = .ok (.bipush (-2), 2) := by decide +kernel
theorem dX11_lands_20 : decode cX11_lands 20 = .ok (.ireturn, 1) := by decide +kernel
theorem dX11_lands_21 : decode cX11_lands 21 = .ok (.aload_n 0, 1) := by decide +kernel
theorem dX11_lands_22 : decode cX11_lands 22 = .ok (.getfield 70, 3) := by decide +kernel
theorem dX11_lands_25 : decode cX11_lands 25 = .ok (.iload_n 1, 1) := by decide +kernel
theorem dX11_lands_26 : decode cX11_lands 26 = .ok (.iload_n 2, 1) := by decide +kernel
theorem dX11_lands_27 : decode cX11_lands 27 = .ok (.aload_n 0, 1) := by decide +kernel
theorem dX11_lands_28 : decode cX11_lands 28 = .ok (.getfield 9, 3) := by decide +kernel
theorem dX11_lands_31 : decode cX11_lands 31 = .ok (.invokevirtual 346, 3) := by decide +kernel
theorem dX11_lands_34 : decode cX11_lands 34 = .ok (.ireturn, 1) := by decide +kernel
theorem dX11_sheet_0 : decode cX11_sheet 0 = .ok (.iload_n 1, 1) := by decide +kernel
theorem dX11_sheet_1 : decode cX11_sheet 1 = .ok (.invokestatic 116, 3) := by decide +kernel
theorem dX11_sheet_4 : decode cX11_sheet 4 = .ok (.ifCond .eq 16, 3) := by decide +kernel
theorem dX11_sheet_7 : decode cX11_sheet 7 = .ok (.iload_n 2, 1) := by decide +kernel
theorem dX11_sheet_8 : decode cX11_sheet 8 = .ok (.invokestatic 350, 3) := by decide +kernel
theorem dX11_sheet_11 : decode cX11_sheet 11 = .ok (.ifCond .eq 9, 3) := by decide +kernel
theorem dX11_sheet_14 : decode cX11_sheet 14 = .ok (.iload_n 3, 1) := by decide +kernel
theorem dX11_sheet_15 : decode cX11_sheet 15 = .ok (.bipush 60, 2) := by decide +kernel
theorem dX11_sheet_17 : decode cX11_sheet 17 = .ok (.if_icmp .le 6, 3) := by decide +kernel
theorem dX11_sheet_20 : decode cX11_sheet 20 = .ok (.bipush (-2), 2) := by decide +kernel
theorem dX11_sheet_22 : decode cX11_sheet 22 = .ok (.ireturn, 1) := by decide +kernel
theorem dX11_sheet_23 : decode cX11_sheet 23 = .ok (.iload_n 3, 1) := by decide +kernel
theorem dX11_sheet_24 : decode cX11_sheet 24 = .ok (.ifCond .ge 9, 3) := by decide +kernel
theorem dX11_sheet_27 : decode cX11_sheet 27 = .ok (.aload_n 0, 1) := by decide +kernel
theorem dX11_sheet_28 : decode cX11_sheet 28 = .ok (.iconst 5, 1) := by decide +kernel
theorem dX11_sheet_29 : decode cX11_sheet 29 = .ok (.invokevirtual 123, 3) := by decide +kernel
theorem dX11_sheet_32 : decode cX11_sheet 32 = .ok (.ireturn, 1) := by decide +kernel
theorem dX11_sheet_33 : decode cX11_sheet 33 = .ok (.aload_n 0, 1) := by decide +kernel
theorem dX11_sheet_34 : decode cX11_sheet 34 = .ok (.getfield 76, 3) := by decide +kernel
theorem dX11_sheet_37 : decode cX11_sheet 37 = .ok (.iload_n 1, 1) := by decide +kernel
theorem dX11_sheet_38 : decode cX11_sheet 38 = .ok (.aaload, 1) := by decide +kernel
theorem dX11_sheet_39 : decode cX11_sheet 39 = .ok (.iload_n 2, 1) := by decide +kernel
theorem dX11_sheet_40 : decode cX11_sheet 40 = .ok (.iload_n 3, 1) := by decide +kernel
theorem dX11_sheet_41 : decode cX11_sheet 41 = .ok (.invokevirtual 353, 3) := by decide +kernel
theorem dX11_sheet_44 : decode cX11_sheet 44 = .ok (.iload_n 3, 1) := by decide +kernel
theorem dX11_sheet_45 : decode cX11_sheet 45 = .ok (.ireturn, 1) := by decide +kernel
theorem dX11_lose_0 : decode cX11_lose 0 = .ok (.iload_n 1, 1) := by decide +kernel
theorem dX11_lose_1 : decode cX11_lose 1 = .ok (.invokestatic 116, 3) := by decide +kernel
theorem dX11_lose_4 : decode cX11_lose 4 = .ok (.ifCond .ne 6, 3) := by decide +kernel
theorem dX11_lose_7 : decode cX11_lose 7 = .ok (.bipush (-2), 2) := by decide +kernel
theorem dX11_lose_9 : decode cX11_lose 9 = .ok (.ireturn, 1) := by decide +kernel
theorem dX11_lose_10 : decode cX11_lose 10 = .ok (.aload_n 0, 1) := by decide +kernel
theorem dX11_lose_11 : decode cX11_lose 11 = .ok (.getfield 76, 3) := by decide +kernel
theorem dX11_lose_14 : decode cX11_lose 14 = .ok (.iload_n 1, 1) := by decide +kernel
theorem dX11_lose_15 : decode cX11_lose 15 = .ok (.aaload, 1) := by decide +kernel
theorem dX11_lose_16 : decode cX11_lose 16 = .ok (.getfield 119, 3) := by decide +kernel
theorem dX11_lose_19 : decode cX11_lose 19 = .ok (.ifCond .eq 9, 3) := by decide +kernel
theorem dX11_lose_22 : decode cX11_lose 22 = .ok (.aload_n 0, 1) := by decide +kernel
theorem dX11_lose_23 : decode cX11_lose 23 = .ok (.iconst 1, 1) := by decide +kernel
theorem dX11_lose_24 : decode cX11_lose 24 = .ok (.invokevirtual 123, 3) := by decide +kernel
theorem dX11_lose_27 : decode cX11_lose 27 = .ok (.ireturn, 1) := by decide +kernel
theorem dX11_lose_28 : decode cX11_lose 28 = .ok (.aload_n 0, 1) := by decide +kernel
theorem dX11_lose_29 : decode cX11_lose 29 = .ok (.getfield 76, 3) := by decide +kernel
theorem dX11_lose_32 : decode cX11_lose 32 = .ok (.iload_n 1, 1) := by decide +kernel
theorem dX11_lose_33 : decode cX11_lose 33 = .ok (.aaload, 1) := by decide +kernel
theorem dX11_lose_34 : decode cX11_lose 34 = .ok (.iconst 1, 1) := by decide +kernel
theorem dX11_lose_35 : decode cX11_lose 35 = .ok (.putfield 119, 3) := by decide +kernel
theorem dX11_lose_38 : decode cX11_lose 38 = .ok (.aload_n 0, 1) := by decide +kernel
theorem dX11_lose_39 : decode cX11_lose 39 = .ok (.getfield 76, 3) := by decide +kernel
theorem dX11_lose_42 : decode cX11_lose 42 = .ok (.iload_n 1, 1) := by decide +kernel
theorem dX11_lose_43 : decode cX11_lose 43 = .ok (.aaload, 1) := by decide +kernel
theorem dX11_lose_44 : decode cX11_lose 44 = .ok (.getfield 127, 3) := by decide +kernel
theorem dX11_lose_47 : decode cX11_lose 47 = .ok (.ireturn, 1) := by decide +kernel
theorem dX11_put_0 : decode cX11_put 0 = .ok (.iload_n 1, 1) := by decide +kernel
theorem dX11_put_1 : decode cX11_put 1 = .ok (.invokestatic 116, 3) := by decide +kernel
theorem dX11_put_4 : decode cX11_put 4 = .ok (.ifCond .eq 10, 3) := by decide +kernel
theorem dX11_put_7 : decode cX11_put 7 = .ok (.iload_n 2, 1) := by decide +kernel
theorem dX11_put_8 : decode cX11_put 8 = .ok (.invokestatic 350, 3) := by decide +kernel
theorem dX11_put_11 : decode cX11_put 11 = .ok (.ifCond .ne 6, 3) := by decide +kernel
theorem dX11_put_14 : decode cX11_put 14 = .ok (.bipush (-2), 2) := by decide +kernel
theorem dX11_put_16 : decode cX11_put 16 = .ok (.ireturn, 1) := by decide +kernel
theorem dX11_put_17 : decode cX11_put 17 = .ok (.aload_n 0, 1) := by decide +kernel
theorem dX11_put_18 : decode cX11_put 18 = .ok (.iload_n 1, 1) := by decide +kernel
theorem dX11_put_19 : decode cX11_put 19 = .ok (.iload_n 2, 1) := by decide +kernel
theorem dX11_put_20 : decode cX11_put 20 = .ok (.iload_n 3, 1) := by decide +kernel
theorem dX11_put_21 : decode cX11_put 21 = .ok (.invokevirtual 356, 3) := by decide +kernel
theorem dX11_put_24 : decode cX11_put 24 = .ok (.istore 5, 2) := by decide +kernel
theorem dX11_put_26 : decode cX11_put 26 = .ok (.iload 5, 2) := by decide +kernel
theorem dX11_put_28 : decode cX11_put 28 = .ok (.ifCond .eq 10, 3) := by decide +kernel
theorem dX11_put_31 : decode cX11_put 31 = .ok (.aload_n 0, 1) := by decide +kernel
theorem dX11_put_32 : decode cX11_put 32 = .ok (.iload 5, 2) := by decide +kernel
theorem dX11_put_34 : decode cX11_put 34 = .ok (.invokevirtual 123, 3) := by decide +kernel
theorem dX11_put_37 : decode cX11_put 37 = .ok (.ireturn, 1) := by decide +kernel
theorem dX11_put_38 : decode cX11_put 38 = .ok (.aload_n 0, 1) := by decide +kernel
theorem dX11_put_39 : decode cX11_put 39 = .ok (.getfield 76, 3) := by decide +kernel
theorem dX11_put_42 : decode cX11_put 42 = .ok (.iload_n 1, 1) := by decide +kernel
theorem dX11_put_43 : decode cX11_put 43 = .ok (.aaload, 1) := by decide +kernel
theorem dX11_put_44 : decode cX11_put 44 = .ok (.iload_n 3, 1) := by decide +kernel
theorem dX11_put_45 : decode cX11_put 45 = .ok (.iload 4, 2) := by decide +kernel
theorem dX11_put_47 : decode cX11_put 47 = .ok (.invokevirtual 359, 3) := by decide +kernel
theorem dX11_put_50 : decode cX11_put 50 = .ok (.iconst 1, 1) := by decide +kernel
theorem dX11_put_51 : decode cX11_put 51 = .ok (.ireturn, 1) := by decide +kernel
theorem dX11_get_0 : decode cX11_get 0 = .ok (.iload_n 1, 1) := by decide +kernel
theorem dX11_get_1 : decode cX11_get 1 = .ok (.invokestatic 116, 3) := by decide +kernel
theorem dX11_get_4 : decode cX11_get 4 = .ok (.ifCond .eq 10, 3) := by decide +kernel
theorem dX11_get_7 : decode cX11_get 7 = .ok (.iload_n 2, 1) := by decide +kernel
theorem dX11_get_8 : decode cX11_get 8 = .ok (.invokestatic 350, 3) := by decide +kernel
theorem dX11_get_11 : decode cX11_get 11 = .ok (.ifCond .ne 6, 3) := by decide +kernel
theorem dX11_get_14 : decode cX11_get 14 = .ok (.ldc 221, 2) := by decide +kernel
theorem dX11_get_16 : decode cX11_get 16 = .ok (.ireturn, 1) := by decide +kernel
theorem dX11_get_17 : decode cX11_get 17 = .ok (.aload_n 0, 1) := by decide +kernel
theorem dX11_get_18 : decode cX11_get 18 = .ok (.iload_n 1, 1) := by decide +kernel
theorem dX11_get_19 : decode cX11_get 19 = .ok (.iload_n 2, 1) := by decide +kernel
theorem dX11_get_20 : decode cX11_get 20 = .ok (.iload_n 3, 1) := by decide +kernel
theorem dX11_get_21 : decode cX11_get 21 = .ok (.invokevirtual 356, 3) := by decide +kernel
theorem dX11_get_24 : decode cX11_get 24 = .ok (.istore 4, 2) := by decide +kernel
theorem dX11_get_26 : decode cX11_get 26 = .ok (.iload 4, 2) := by decide +kernel
theorem dX11_get_28 : decode cX11_get 28 = .ok (.ifCond .eq 12, 3) := by decide +kernel
theorem dX11_get_31 : decode cX11_get 31 = .ok (.aload_n 0, 1) := by decide +kernel
theorem dX11_get_32 : decode cX11_get 32 = .ok (.iload 4, 2) := by decide +kernel
theorem dX11_get_34 : decode cX11_get 34 = .ok (.putfield 362, 3) := by decide +kernel
theorem dX11_get_37 : decode cX11_get 37 = .ok (.ldc 221, 2) := by decide +kernel
theorem dX11_get_39 : decode cX11_get 39 = .ok (.ireturn, 1) := by decide +kernel
theorem dX11_get_40 : decode cX11_get 40 = .ok (.aload_n 0, 1) := by decide +kernel
theorem dX11_get_41 : decode cX11_get 41 = .ok (.getfield 76, 3) := by decide +kernel
theorem dX11_get_44 : decode cX11_get 44 = .ok (.iload_n 1, 1) := by decide +kernel
theorem dX11_get_45 : decode cX11_get 45 = .ok (.aaload, 1) := by decide +kernel
theorem dX11_get_46 : decode cX11_get 46 = .ok (.getfield 130, 3) := by decide +kernel
theorem dX11_get_49 : decode cX11_get 49 = .ok (.iload_n 3, 1) := by decide +kernel
theorem dX11_get_50 : decode cX11_get 50 = .ok (.iaload, 1) := by decide +kernel
theorem dX11_get_51 : decode cX11_get 51 = .ok (.ireturn, 1) := by decide +kernel
theorem dX11_copy_0 : decode cX11_copy 0 = .ok (.iload_n 1, 1) := by decide +kernel
theorem dX11_copy_1 : decode cX11_copy 1 = .ok (.invokestatic 116, 3) := by decide +kernel
theorem dX11_copy_4 : decode cX11_copy 4 = .ok (.ifCond .eq 10, 3) := by decide +kernel
theorem dX11_copy_7 : decode cX11_copy 7 = .ok (.iload_n 3, 1) := by decide +kernel
theorem dX11_copy_8 : decode cX11_copy 8 = .ok (.invokestatic 116, 3) := by decide +kernel
theorem dX11_copy_11 : decode cX11_copy 11 = .ok (.ifCond .ne 6, 3) := by decide +kernel
theorem dX11_copy_14 : decode cX11_copy 14 = .ok (.bipush (-2), 2) := by decide +kernel
theorem dX11_copy_16 : decode cX11_copy 16 = .ok (.ireturn, 1) := by decide +kernel
theorem dX11_copy_17 : decode cX11_copy 17 = .ok (.aload_n 0, 1) := by decide +kernel
theorem dX11_copy_18 : decode cX11_copy 18 = .ok (.getfield 76, 3) := by decide +kernel
theorem dX11_copy_21 : decode cX11_copy 21 = .ok (.iload_n 1, 1) := by decide +kernel
theorem dX11_copy_22 : decode cX11_copy 22 = .ok (.aaload, 1) := by decide +kernel
theorem dX11_copy_23 : decode cX11_copy 23 = .ok (.astore 6, 2) := by decide +kernel
theorem dX11_copy_25 : decode cX11_copy 25 = .ok (.aload_n 0, 1) := by decide +kernel
theorem dX11_copy_26 : decode cX11_copy 26 = .ok (.getfield 76, 3) := by decide +kernel
theorem dX11_copy_29 : decode cX11_copy 29 = .ok (.iload_n 3, 1) := by decide +kernel
theorem dX11_copy_30 : decode cX11_copy 30 = .ok (.aaload, 1) := by decide +kernel
theorem dX11_copy_31 : decode cX11_copy 31 = .ok (.astore 7, 2) := by decide +kernel
theorem dX11_copy_33 : decode cX11_copy 33 = .ok (.aload 6, 2) := by decide +kernel
theorem dX11_copy_35 : decode cX11_copy 35 = .ok (.getfield 119, 3) := by decide +kernel
theorem dX11_copy_38 : decode cX11_copy 38 = .ok (.ifCond .ne 11, 3) := by decide +kernel
theorem dX11_copy_41 : decode cX11_copy 41 = .ok (.aload 7, 2) := by decide +kernel
theorem dX11_copy_43 : decode cX11_copy 43 = .ok (.getfield 119, 3) := by decide +kernel
theorem dX11_copy_46 : decode cX11_copy 46 = .ok (.ifCond .eq 9, 3) := by decide +kernel
theorem dX11_copy_49 : decode cX11_copy 49 = .ok (.aload_n 0, 1) := by decide +kernel
theorem dX11_copy_50 : decode cX11_copy 50 = .ok (.iconst 1, 1) := by decide +kernel
theorem dX11_copy_51 : decode cX11_copy 51 = .ok (.invokevirtual 123, 3) := by decide +kernel
theorem dX11_copy_54 : decode cX11_copy 54 = .ok (.ireturn, 1) := by decide +kernel
theorem dX11_copy_55 : decode cX11_copy 55 = .ok (.aload 6, 2) := by decide +kernel
theorem dX11_copy_57 : decode cX11_copy 57 = .ok (.getfield 365, 3) := by decide +kernel
theorem dX11_copy_60 : decode cX11_copy 60 = .ok (.aload 7, 2) := by decide +kernel
theorem dX11_copy_62 : decode cX11_copy 62 = .ok (.getfield 365, 3) := by decide +kernel
theorem dX11_copy_65 : decode cX11_copy 65 = .ok (.if_icmp .eq 9, 3) := by decide +kernel
theorem dX11_copy_68 : decode cX11_copy 68 = .ok (.aload_n 0, 1) := by decide +kernel
theorem dX11_copy_69 : decode cX11_copy 69 = .ok (.iconst 4, 1) := by decide +kernel
theorem dX11_copy_70 : decode cX11_copy 70 = .ok (.invokevirtual 123, 3) := by decide +kernel
theorem dX11_copy_73 : decode cX11_copy 73 = .ok (.ireturn, 1) := by decide +kernel
theorem dX11_copy_74 : decode cX11_copy 74 = .ok (.aload 6, 2) := by decide +kernel
theorem dX11_copy_76 : decode cX11_copy 76 = .ok (.iload_n 2, 1) := by decide +kernel
theorem dX11_copy_77 : decode cX11_copy 77 = .ok (.iload 5, 2) := by decide +kernel
theorem dX11_copy_79 : decode cX11_copy 79 = .ok (.invokevirtual 368, 3) := by decide +kernel
theorem dX11_copy_82 : decode cX11_copy 82 = .ok (.ifCond .eq 15, 3) := by decide +kernel
theorem dX11_copy_85 : decode cX11_copy 85 = .ok (.aload 7, 2) := by decide +kernel
theorem dX11_copy_87 : decode cX11_copy 87 = .ok (.iload 4, 2) := by decide +kernel
theorem dX11_copy_89 : decode cX11_copy 89 = .ok (.iload 5, 2) := by decide +kernel
theorem dX11_copy_91 : decode cX11_copy 91 = .ok (.invokevirtual 368, 3) := by decide +kernel
theorem dX11_copy_94 : decode cX11_copy 94 = .ok (.ifCond .ne 9, 3) := by decide +kernel
theorem dX11_copy_97 : decode cX11_copy 97 = .ok (.aload_n 0, 1) := by decide +kernel
theorem dX11_copy_98 : decode cX11_copy 98 = .ok (.iconst 2, 1) := by decide +kernel
theorem dX11_copy_99 : decode cX11_copy 99 = .ok (.invokevirtual 123, 3) := by decide +kernel
theorem dX11_copy_102 : decode cX11_copy 102 = .ok (.ireturn, 1) := by decide +kernel
theorem dX11_copy_103 : decode cX11_copy 103 = .ok (.aload 6, 2) := by decide +kernel
theorem dX11_copy_105 : decode cX11_copy 105 = .ok (.getfield 130, 3) := by decide +kernel
theorem dX11_copy_108 : decode cX11_copy 108 = .ok (.iload_n 2, 1) := by decide +kernel
theorem dX11_copy_109 : decode cX11_copy 109 = .ok (.aload 7, 2) := by decide +kernel
theorem dX11_copy_111 : decode cX11_copy 111 = .ok (.getfield 130, 3) := by decide +kernel
theorem dX11_copy_114 : decode cX11_copy 114 = .ok (.iload 4, 2) := by decide +kernel
theorem dX11_copy_116 : decode cX11_copy 116 = .ok (.iload 5, 2) := by decide +kernel
theorem dX11_copy_118 : decode cX11_copy 118 = .ok (.invokestatic 371, 3) := by decide +kernel
theorem dX11_copy_121 : decode cX11_copy 121 = .ok (.iconst 1, 1) := by decide +kernel
theorem dX11_copy_122 : decode cX11_copy 122 = .ok (.ireturn, 1) := by decide +kernel
theorem dX11_write_0 : decode cX11_write 0 = .ok (.iload_n 1, 1) := by decide +kernel
theorem dX11_write_1 : decode cX11_write 1 = .ok (.invokestatic 116, 3) := by decide +kernel
theorem dX11_write_4 : decode cX11_write 4 = .ok (.ifCond .eq 10, 3) := by decide +kernel
theorem dX11_write_7 : decode cX11_write 7 = .ok (.iload_n 2, 1) := by decide +kernel
theorem dX11_write_8 : decode cX11_write 8 = .ok (.invokestatic 199, 3) := by decide +kernel
theorem dX11_write_11 : decode cX11_write 11 = .ok (.ifCond .ne 6, 3) := by decide +kernel
theorem dX11_write_14 : decode cX11_write 14 = .ok (.bipush (-2), 2) := by decide +kernel
theorem dX11_write_16 : decode cX11_write 16 = .ok (.ireturn, 1) := by decide +kernel
theorem dX11_write_17 : decode cX11_write 17 = .ok (.aload_n 0, 1) := by decide +kernel
theorem dX11_write_18 : decode cX11_write 18 = .ok (.getfield 76, 3) := by decide +kernel
theorem dX11_write_21 : decode cX11_write 21 = .ok (.iload_n 1, 1) := by decide +kernel
theorem dX11_write_22 : decode cX11_write 22 = .ok (.aaload, 1) := by decide +kernel
theorem dX11_write_23 : decode cX11_write 23 = .ok (.astore_n 3, 1) := by decide +kernel
theorem dX11_write_24 : decode cX11_write 24 = .ok (.aload_n 3, 1) := by decide +kernel
theorem dX11_write_25 : decode cX11_write 25 = .ok (.getfield 119, 3) := by decide +kernel
theorem dX11_write_28 : decode cX11_write 28 = .ok (.ifCond .eq 9, 3) := by decide +kernel
theorem dX11_write_31 : decode cX11_write 31 = .ok (.aload_n 0, 1) := by decide +kernel
theorem dX11_write_32 : decode cX11_write 32 = .ok (.iconst 1, 1) := by decide +kernel
theorem dX11_write_33 : decode cX11_write 33 = .ok (.invokevirtual 123, 3) := by decide +kernel
theorem dX11_write_36 : decode cX11_write 36 = .ok (.ireturn, 1) := by decide +kernel
theorem dX11_write_37 : decode cX11_write 37 = .ok (.aload_n 0, 1) := by decide +kernel
theorem dX11_write_38 : decode cX11_write 38 = .ok (.getfield 23, 3) := by decide +kernel
theorem dX11_write_41 : decode cX11_write 41 = .ok (.iload_n 2, 1) := by decide +kernel
theorem dX11_write_42 : decode cX11_write 42 = .ok (.invokevirtual 202, 3) := by decide +kernel
theorem dX11_write_45 : decode cX11_write 45 = .ok (.astore 4, 2) := by decide +kernel
theorem dX11_write_47 : decode cX11_write 47 = .ok (.aload_n 0, 1) := by decide +kernel
theorem dX11_write_48 : decode cX11_write 48 = .ok (.getfield 16, 3) := by decide +kernel
theorem dX11_write_51 : decode cX11_write 51 = .ok (.getfield 222, 3) := by decide +kernel
theorem dX11_write_54 : decode cX11_write 54 = .ok (.aload_n 3, 1) := by decide +kernel
theorem dX11_write_55 : decode cX11_write 55 = .ok (.getfield 127, 3) := by decide +kernel
theorem dX11_write_58 : decode cX11_write 58 = .ok (.invokestatic 377, 3) := by decide +kernel
theorem dX11_write_61 : decode cX11_write 61 = .ok (.istore 5, 2) := by decide +kernel
theorem dX11_write_63 : decode cX11_write 63 = .ok (.iconst 0, 1) := by decide +kernel
theorem dX11_write_64 : decode cX11_write 64 = .ok (.istore 6, 2) := by decide +kernel
theorem dX11_write_66 : decode cX11_write 66 = .ok (.iload 6, 2) := by decide +kernel
theorem dX11_write_68 : decode cX11_write 68 = .ok (.iload 5, 2) := by decide +kernel
theorem dX11_write_70 : decode cX11_write 70 = .ok (.if_icmp .ge 34, 3) := by decide +kernel
theorem dX11_write_73 : decode cX11_write 73 = .ok (.aload_n 3, 1) := by decide +kernel
theorem dX11_write_74 : decode cX11_write 74 = .ok (.iload 6, 2) := by decide +kernel
theorem dX11_write_76 : decode cX11_write 76 = .ok (.aload_n 0, 1) := by decide +kernel
theorem dX11_write_77 : decode cX11_write 77 = .ok (.getfield 23, 3) := by decide +kernel
theorem dX11_write_80 : decode cX11_write 80 = .ok (.aload_n 0, 1) := by decide +kernel
theorem dX11_write_81 : decode cX11_write 81 = .ok (.getfield 16, 3) := by decide +kernel
theorem dX11_write_84 : decode cX11_write 84 = .ok (.getfield 140, 3) := by decide +kernel
theorem dX11_write_87 : decode cX11_write 87 = .ok (.iload 6, 2) := by decide +kernel
theorem dX11_write_89 : decode cX11_write 89 = .ok (.aaload, 1) := by decide +kernel
theorem dX11_write_90 : decode cX11_write 90 = .ok (.aload 4, 2) := by decide +kernel
theorem dX11_write_92 : decode cX11_write 92 = .ok (.invokevirtual 206, 3) := by decide +kernel
theorem dX11_write_95 : decode cX11_write 95 = .ok (.invokevirtual 359, 3) := by decide +kernel
theorem dX11_write_98 : decode cX11_write 98 = .ok (.iinc 6 1, 3) := by decide +kernel
theorem dX11_write_101 : decode cX11_write 101 = .ok (.goto (-35), 3) := by decide +kernel
theorem dX11_write_104 : decode cX11_write 104 = .ok (.iload 5, 2) := by decide +kernel
theorem dX11_write_106 : decode cX11_write 106 = .ok (.ireturn, 1) := by decide +kernel
theorem dX11_count_0 : decode cX11_count 0 = .ok (.iload_n 1, 1) := by decide +kernel
theorem dX11_count_1 : decode cX11_count 1 = .ok (.tableswitch 122 0 9 #[55, 60, 65, 73, 82, 91, 96, 101, 109, 114], 55) := by decide +kernel
theorem dX11_count_56 : decode cX11_count 56 = .ok (.aload_n 0, 1) := by decide +kernel
theorem dX11_count_57 : decode cX11_count 57 = .ok (.getfield 85, 3) := by decide +kernel
theorem dX11_count_60 : decode cX11_count 60 = .ok (.ireturn, 1) := by decide +kernel
theorem dX11_count_61 : decode cX11_count 61 = .ok (.aload_n 0, 1) := by decide +kernel
theorem dX11_count_62 : decode cX11_count 62 = .ok (.getfield 93, 3) := by decide +kernel
theorem dX11_count_65 : decode cX11_count 65 = .ok (.ireturn, 1) := by decide +kernel
theorem dX11_count_66 : decode cX11_count 66 = .ok (.aload_n 0, 1) := by decide +kernel
theorem dX11_count_67 : decode cX11_count 67 = .ok (.getfield 16, 3) := by decide +kernel
theorem dX11_count_70 : decode cX11_count 70 = .ok (.getfield 222, 3) := by decide +kernel
theorem dX11_count_73 : decode cX11_count 73 = .ok (.ireturn, 1) := by decide +kernel
theorem dX11_count_74 : decode cX11_count 74 = .ok (.aload_n 0, 1) := by decide +kernel
theorem dX11_count_75 : decode cX11_count 75 = .ok (.getfield 16, 3) := by decide +kernel
theorem dX11_count_78 : decode cX11_count 78 = .ok (.iconst 3, 1) := by decide +kernel
theorem dX11_count_79 : decode cX11_count 79 = .ok (.invokevirtual 379, 3) := by decide +kernel
theorem dX11_count_82 : decode cX11_count 82 = .ok (.ireturn, 1) := by decide +kernel
theorem dX11_count_83 : decode cX11_count 83 = .ok (.aload_n 0, 1) := by decide +kernel
theorem dX11_count_84 : decode cX11_count 84 = .ok (.getfield 16, 3) := by decide +kernel
theorem dX11_count_87 : decode cX11_count 87 = .ok (.iconst 4, 1) := by decide +kernel
theorem dX11_count_88 : decode cX11_count 88 = .ok (.invokevirtual 379, 3) := by decide +kernel
theorem dX11_count_91 : decode cX11_count 91 = .ok (.ireturn, 1) := by decide +kernel
theorem dX11_count_92 : decode cX11_count 92 = .ok (.aload_n 0, 1) := by decide +kernel
theorem dX11_count_93 : decode cX11_count 93 = .ok (.getfield 223, 3) := by decide +kernel
theorem dX11_count_96 : decode cX11_count 96 = .ok (.ireturn, 1) := by decide +kernel
theorem dX11_count_97 : decode cX11_count 97 = .ok (.aload_n 0, 1) := by decide +kernel
theorem dX11_count_98 : decode cX11_count 98 = .ok (.getfield 274, 3) := by decide +kernel
theorem dX11_count_101 : decode cX11_count 101 = .ok (.ireturn, 1) := by decide +kernel
theorem dX11_count_102 : decode cX11_count 102 = .ok (.aload_n 0, 1) := by decide +kernel
theorem dX11_count_103 : decode cX11_count 103 = .ok (.getfield 70, 3) := by decide +kernel
theorem dX11_count_106 : decode cX11_count 106 = .ok (.getfield 336, 3) := by decide +kernel
theorem dX11_count_109 : decode cX11_count 109 = .ok (.ireturn, 1) := by decide +kernel
theorem dX11_count_110 : decode cX11_count 110 = .ok (.aload_n 0, 1) := by decide +kernel
theorem dX11_count_111 : decode cX11_count 111 = .ok (.getfield 362, 3) := by decide +kernel
theorem dX11_count_114 : decode cX11_count 114 = .ok (.ireturn, 1) := by decide +kernel
theorem dX11_count_115 : decode cX11_count 115 = .ok (.aload_n 0, 1) := by decide +kernel
theorem dX11_count_116 : decode cX11_count 116 = .ok (.getfield 23, 3) := by decide +kernel
theorem dX11_count_119 : decode cX11_count 119 = .ok (.getfield 186, 3) := by decide +kernel
theorem dX11_count_122 : decode cX11_count 122 = .ok (.ireturn, 1) := by decide +kernel
theorem dX11_count_123 : decode cX11_count 123 = .ok (.bipush (-2), 2) := by decide +kernel
theorem dX11_count_125 : decode cX11_count 125 = .ok (.ireturn, 1) := by decide +kernel
theorem dX11_digest_0 : decode cX11_digest 0 = .ok (.ldc2_w 382, 3) := by decide +kernel
theorem dX11_digest_3 : decode cX11_digest 3 = .ok (.lstore_n 1, 1) := by decide +kernel
theorem dX11_digest_4 : decode cX11_digest 4 = .ok (.iconst 0, 1) := by decide +kernel
theorem dX11_digest_5 : decode cX11_digest 5 = .ok (.istore_n 3, 1) := by decide +kernel
theorem dX11_digest_6 : decode cX11_digest 6 = .ok (.iload_n 3, 1) := by decide +kernel
theorem dX11_digest_7 : decode cX11_digest 7 = .ok (.bipush 7, 2) := by decide +kernel
theorem dX11_digest_9 : decode cX11_digest 9 = .ok (.if_icmp .gt 22, 3) := by decide +kernel
theorem dX11_digest_12 : decode cX11_digest 12 = .ok (.ldc2_w 384, 3) := by decide +kernel
theorem dX11_digest_15 : decode cX11_digest 15 = .ok (.lload_n 1, 1) := by decide +kernel
theorem dX11_digest_16 : decode cX11_digest 16 = .ok (.lmul, 1) := by decide +kernel
theorem dX11_digest_17 : decode cX11_digest 17 = .ok (.aload_n 0, 1) := by decide +kernel
theorem dX11_digest_18 : decode cX11_digest 18 = .ok (.iload_n 3, 1) := by decide +kernel
theorem dX11_digest_19 : decode cX11_digest 19 = .ok (.invokevirtual 386, 3) := by decide +kernel
theorem dX11_digest_22 : decode cX11_digest 22 = .ok (.i2l, 1) := by decide +kernel
theorem dX11_digest_23 : decode cX11_digest 23 = .ok (.ladd, 1) := by decide +kernel
theorem dX11_digest_24 : decode cX11_digest 24 = .ok (.lstore_n 1, 1) := by decide +kernel
theorem dX11_digest_25 : decode cX11_digest 25 = .ok (.iinc 3 1, 3) := by decide +kernel
theorem dX11_digest_28 : decode cX11_digest 28 = .ok (.goto (-22), 3) := by decide +kernel
theorem dX11_digest_31 : decode cX11_digest 31 = .ok (.ldc2_w 384, 3) := by decide +kernel
theorem dX11_digest_34 : decode cX11_digest 34 = .ok (.lload_n 1, 1) := by decide +kernel
theorem dX11_digest_35 : decode cX11_digest 35 = .ok (.lmul, 1) := by decide +kernel
theorem dX11_digest_36 : decode cX11_digest 36 = .ok (.aload_n 0, 1) := by decide +kernel
theorem dX11_digest_37 : decode cX11_digest 37 = .ok (.bipush 9, 2) := by decide +kernel
theorem dX11_digest_39 : decode cX11_digest 39 = .ok (.invokevirtual 386, 3) := by decide +kernel
theorem dX11_digest_42 : decode cX11_digest 42 = .ok (.i2l, 1) := by decide +kernel
theorem dX11_digest_43 : decode cX11_digest 43 = .ok (.ladd, 1) := by decide +kernel
theorem dX11_digest_44 : decode cX11_digest 44 = .ok (.lstore_n 1, 1) := by decide +kernel
theorem dX11_digest_45 : decode cX11_digest 45 = .ok (.iconst 0, 1) := by decide +kernel
theorem dX11_digest_46 : decode cX11_digest 46 = .ok (.istore_n 3, 1) := by decide +kernel
theorem dX11_digest_47 : decode cX11_digest 47 = .ok (.iload_n 3, 1) := by decide +kernel
theorem dX11_digest_48 : decode cX11_digest 48 = .ok (.aload_n 0, 1) := by decide +kernel
theorem dX11_digest_49 : decode cX11_digest 49 = .ok (.getfield 93, 3) := by decide +kernel
theorem dX11_digest_52 : decode cX11_digest 52 = .ok (.if_icmp .ge 16, 3) := by decide +kernel
theorem dX11_digest_55 : decode cX11_digest 55 = .ok (.aload_n 0, 1) := by decide +kernel
theorem dX11_digest_56 : decode cX11_digest 56 = .ok (.lload_n 1, 1) := by decide +kernel
theorem dX11_digest_57 : decode cX11_digest 57 = .ok (.iload_n 3, 1) := by decide +kernel
theorem dX11_digest_58 : decode cX11_digest 58 = .ok (.invokevirtual 389, 3) := by decide +kernel
theorem dX11_digest_61 : decode cX11_digest 61 = .ok (.lstore_n 1, 1) := by decide +kernel
theorem dX11_digest_62 : decode cX11_digest 62 = .ok (.iinc 3 1, 3) := by decide +kernel
theorem dX11_digest_65 : decode cX11_digest 65 = .ok (.goto (-18), 3) := by decide +kernel
theorem dX11_digest_68 : decode cX11_digest 68 = .ok (.iconst 0, 1) := by decide +kernel
theorem dX11_digest_69 : decode cX11_digest 69 = .ok (.istore_n 3, 1) := by decide +kernel
theorem dX11_digest_70 : decode cX11_digest 70 = .ok (.iload_n 3, 1) := by decide +kernel
theorem dX11_digest_71 : decode cX11_digest 71 = .ok (.aload_n 0, 1) := by decide +kernel
theorem dX11_digest_72 : decode cX11_digest 72 = .ok (.getfield 16, 3) := by decide +kernel
theorem dX11_digest_75 : decode cX11_digest 75 = .ok (.getfield 222, 3) := by decide +kernel
theorem dX11_digest_78 : decode cX11_digest 78 = .ok (.if_icmp .ge 16, 3) := by decide +kernel
theorem dX11_digest_81 : decode cX11_digest 81 = .ok (.aload_n 0, 1) := by decide +kernel
theorem dX11_digest_82 : decode cX11_digest 82 = .ok (.lload_n 1, 1) := by decide +kernel
theorem dX11_digest_83 : decode cX11_digest 83 = .ok (.iload_n 3, 1) := by decide +kernel
theorem dX11_digest_84 : decode cX11_digest 84 = .ok (.invokevirtual 393, 3) := by decide +kernel
theorem dX11_digest_87 : decode cX11_digest 87 = .ok (.lstore_n 1, 1) := by decide +kernel
theorem dX11_digest_88 : decode cX11_digest 88 = .ok (.iinc 3 1, 3) := by decide +kernel
theorem dX11_digest_91 : decode cX11_digest 91 = .ok (.goto (-21), 3) := by decide +kernel
theorem dX11_digest_94 : decode cX11_digest 94 = .ok (.ldc2_w 384, 3) := by decide +kernel
theorem dX11_digest_97 : decode cX11_digest 97 = .ok (.lload_n 1, 1) := by decide +kernel
theorem dX11_digest_98 : decode cX11_digest 98 = .ok (.lmul, 1) := by decide +kernel
theorem dX11_digest_99 : decode cX11_digest 99 = .ok (.aload_n 0, 1) := by decide +kernel
theorem dX11_digest_100 : decode cX11_digest 100 = .ok (.invokevirtual 396, 3) := by decide +kernel
theorem dX11_digest_103 : decode cX11_digest 103 = .ok (.i2l, 1) := by decide +kernel
theorem dX11_digest_104 : decode cX11_digest 104 = .ok (.ladd, 1) := by decide +kernel
theorem dX11_digest_105 : decode cX11_digest 105 = .ok (.lstore_n 1, 1) := by decide +kernel
theorem dX11_digest_106 : decode cX11_digest 106 = .ok (.aload_n 0, 1) := by decide +kernel
theorem dX11_digest_107 : decode cX11_digest 107 = .ok (.getfield 36, 3) := by decide +kernel
theorem dX11_digest_110 : decode cX11_digest 110 = .ok (.aload_n 0, 1) := by decide +kernel
theorem dX11_digest_111 : decode cX11_digest 111 = .ok (.getfield 29, 3) := by decide +kernel
theorem dX11_digest_114 : decode cX11_digest 114 = .ok (.aload_n 0, 1) := by decide +kernel
theorem dX11_digest_115 : decode cX11_digest 115 = .ok (.getfield 223, 3) := by decide +kernel
theorem dX11_digest_118 : decode cX11_digest 118 = .ok (.aload_n 0, 1) := by decide +kernel
theorem dX11_digest_119 : decode cX11_digest 119 = .ok (.getfield 16, 3) := by decide +kernel
theorem dX11_digest_122 : decode cX11_digest 122 = .ok (.invokevirtual 240, 3) := by decide +kernel
theorem dX11_digest_125 : decode cX11_digest 125 = .ok (.ldc2_w 384, 3) := by decide +kernel
theorem dX11_digest_128 : decode cX11_digest 128 = .ok (.lload_n 1, 1) := by decide +kernel
theorem dX11_digest_129 : decode cX11_digest 129 = .ok (.lmul, 1) := by decide +kernel
theorem dX11_digest_130 : decode cX11_digest 130 = .ok (.aload_n 0, 1) := by decide +kernel
theorem dX11_digest_131 : decode cX11_digest 131 = .ok (.getfield 36, 3) := by decide +kernel
theorem dX11_digest_134 : decode cX11_digest 134 = .ok (.invokevirtual 244, 3) := by decide +kernel
theorem dX11_digest_137 : decode cX11_digest 137 = .ok (.i2l, 1) := by decide +kernel
theorem dX11_digest_138 : decode cX11_digest 138 = .ok (.ladd, 1) := by decide +kernel
theorem dX11_digest_139 : decode cX11_digest 139 = .ok (.lstore_n 1, 1) := by decide +kernel
theorem dX11_digest_140 : decode cX11_digest 140 = .ok (.ldc2_w 384, 3) := by decide +kernel
theorem dX11_digest_143 : decode cX11_digest 143 = .ok (.lload_n 1, 1) := by decide +kernel
theorem dX11_digest_144 : decode cX11_digest 144 = .ok (.lmul, 1) := by decide +kernel
theorem dX11_digest_145 : decode cX11_digest 145 = .ok (.aload_n 0, 1) := by decide +kernel
theorem dX11_digest_146 : decode cX11_digest 146 = .ok (.getfield 36, 3) := by decide +kernel
theorem dX11_digest_149 : decode cX11_digest 149 = .ok (.invokevirtual 247, 3) := by decide +kernel
theorem dX11_digest_152 : decode cX11_digest 152 = .ok (.i2l, 1) := by decide +kernel
theorem dX11_digest_153 : decode cX11_digest 153 = .ok (.ladd, 1) := by decide +kernel
theorem dX11_digest_154 : decode cX11_digest 154 = .ok (.lstore_n 1, 1) := by decide +kernel
theorem dX11_digest_155 : decode cX11_digest 155 = .ok (.ldc2_w 384, 3) := by decide +kernel
theorem dX11_digest_158 : decode cX11_digest 158 = .ok (.lload_n 1, 1) := by decide +kernel
theorem dX11_digest_159 : decode cX11_digest 159 = .ok (.lmul, 1) := by decide +kernel
theorem dX11_digest_160 : decode cX11_digest 160 = .ok (.aload_n 0, 1) := by decide +kernel
theorem dX11_digest_161 : decode cX11_digest 161 = .ok (.iconst 0, 1) := by decide +kernel
theorem dX11_digest_162 : decode cX11_digest 162 = .ok (.invokevirtual 399, 3) := by decide +kernel
theorem dX11_digest_165 : decode cX11_digest 165 = .ok (.i2l, 1) := by decide +kernel
theorem dX11_digest_166 : decode cX11_digest 166 = .ok (.ladd, 1) := by decide +kernel
theorem dX11_digest_167 : decode cX11_digest 167 = .ok (.lreturn, 1) := by decide +kernel
theorem dX11_withParish_0 : decode cX11_withParish 0 = .ok (.ldc2_w 384, 3) := by decide +kernel
theorem dX11_withParish_3 : decode cX11_withParish 3 = .ok (.lload_n 1, 1) := by decide +kernel
theorem dX11_withParish_4 : decode cX11_withParish 4 = .ok (.lmul, 1) := by decide +kernel
theorem dX11_withParish_5 : decode cX11_withParish 5 = .ok (.aload_n 0, 1) := by decide +kernel
theorem dX11_withParish_6 : decode cX11_withParish 6 = .ok (.getfield 9, 3) := by decide +kernel
theorem dX11_withParish_9 : decode cX11_withParish 9 = .ok (.iload_n 3, 1) := by decide +kernel
theorem dX11_withParish_10 : decode cX11_withParish 10 = .ok (.iaload, 1) := by decide +kernel
theorem dX11_withParish_11 : decode cX11_withParish 11 = .ok (.i2l, 1) := by decide +kernel
theorem dX11_withParish_12 : decode cX11_withParish 12 = .ok (.ladd, 1) := by decide +kernel
theorem dX11_withParish_13 : decode cX11_withParish 13 = .ok (.lstore 4, 2) := by decide +kernel
theorem dX11_withParish_15 : decode cX11_withParish 15 = .ok (.aload_n 0, 1) := by decide +kernel
theorem dX11_withParish_16 : decode cX11_withParish 16 = .ok (.getfield 43, 3) := by decide +kernel
theorem dX11_withParish_19 : decode cX11_withParish 19 = .ok (.aload_n 0, 1) := by decide +kernel
theorem dX11_withParish_20 : decode cX11_withParish 20 = .ok (.getfield 16, 3) := by decide +kernel
theorem dX11_withParish_23 : decode cX11_withParish 23 = .ok (.iload_n 3, 1) := by decide +kernel
theorem dX11_withParish_24 : decode cX11_withParish 24 = .ok (.invokevirtual 259, 3) := by decide +kernel
theorem dX11_withParish_27 : decode cX11_withParish 27 = .ok (.iconst 0, 1) := by decide +kernel
theorem dX11_withParish_28 : decode cX11_withParish 28 = .ok (.istore 6, 2) := by decide +kernel
theorem dX11_withParish_30 : decode cX11_withParish 30 = .ok (.iload 6, 2) := by decide +kernel
theorem dX11_withParish_32 : decode cX11_withParish 32 = .ok (.iconst 5, 1) := by decide +kernel
theorem dX11_withParish_33 : decode cX11_withParish 33 = .ok (.if_icmp .gt 32, 3) := by decide +kernel
theorem dX11_withParish_36 : decode cX11_withParish 36 = .ok (.ldc2_w 384, 3) := by decide +kernel
theorem dX11_withParish_39 : decode cX11_withParish 39 = .ok (.lload 4, 2) := by decide +kernel
theorem dX11_withParish_41 : decode cX11_withParish 41 = .ok (.lmul, 1) := by decide +kernel
theorem dX11_withParish_42 : decode cX11_withParish 42 = .ok (.aload_n 0, 1) := by decide +kernel
theorem dX11_withParish_43 : decode cX11_withParish 43 = .ok (.getfield 43, 3) := by decide +kernel
theorem dX11_withParish_46 : decode cX11_withParish 46 = .ok (.aload_n 0, 1) := by decide +kernel
theorem dX11_withParish_47 : decode cX11_withParish 47 = .ok (.getfield 16, 3) := by decide +kernel
theorem dX11_withParish_50 : decode cX11_withParish 50 = .ok (.iload 6, 2) := by decide +kernel
theorem dX11_withParish_52 : decode cX11_withParish 52 = .ok (.invokevirtual 263, 3) := by decide +kernel
theorem dX11_withParish_55 : decode cX11_withParish 55 = .ok (.i2l, 1) := by decide +kernel
theorem dX11_withParish_56 : decode cX11_withParish 56 = .ok (.ladd, 1) := by decide +kernel
theorem dX11_withParish_57 : decode cX11_withParish 57 = .ok (.lstore 4, 2) := by decide +kernel
theorem dX11_withParish_59 : decode cX11_withParish 59 = .ok (.iinc 6 1, 3) := by decide +kernel
theorem dX11_withParish_62 : decode cX11_withParish 62 = .ok (.goto (-32), 3) := by decide +kernel
theorem dX11_withParish_65 : decode cX11_withParish 65 = .ok (.ldc2_w 384, 3) := by decide +kernel
theorem dX11_withParish_68 : decode cX11_withParish 68 = .ok (.lload 4, 2) := by decide +kernel
theorem dX11_withParish_70 : decode cX11_withParish 70 = .ok (.lmul, 1) := by decide +kernel
theorem dX11_withParish_71 : decode cX11_withParish 71 = .ok (.aload_n 0, 1) := by decide +kernel
theorem dX11_withParish_72 : decode cX11_withParish 72 = .ok (.iload_n 3, 1) := by decide +kernel
theorem dX11_withParish_73 : decode cX11_withParish 73 = .ok (.aload_n 0, 1) := by decide +kernel
theorem dX11_withParish_74 : decode cX11_withParish 74 = .ok (.getfield 85, 3) := by decide +kernel
theorem dX11_withParish_77 : decode cX11_withParish 77 = .ok (.invokevirtual 402, 3) := by decide +kernel
theorem dX11_withParish_80 : decode cX11_withParish 80 = .ok (.i2l, 1) := by decide +kernel
theorem dX11_withParish_81 : decode cX11_withParish 81 = .ok (.ladd, 1) := by decide +kernel
theorem dX11_withParish_82 : decode cX11_withParish 82 = .ok (.lreturn, 1) := by decide +kernel
theorem dX11_withBell_0 : decode cX11_withBell 0 = .ok (.lload_n 1, 1) := by decide +kernel
theorem dX11_withBell_1 : decode cX11_withBell 1 = .ok (.lstore 4, 2) := by decide +kernel
theorem dX11_withBell_3 : decode cX11_withBell 3 = .ok (.iconst 0, 1) := by decide +kernel
theorem dX11_withBell_4 : decode cX11_withBell 4 = .ok (.istore 6, 2) := by decide +kernel
theorem dX11_withBell_6 : decode cX11_withBell 6 = .ok (.iload 6, 2) := by decide +kernel
theorem dX11_withBell_8 : decode cX11_withBell 8 = .ok (.bipush 8, 2) := by decide +kernel
theorem dX11_withBell_10 : decode cX11_withBell 10 = .ok (.if_icmp .gt 26, 3) := by decide +kernel
theorem dX11_withBell_13 : decode cX11_withBell 13 = .ok (.ldc2_w 384, 3) := by decide +kernel
theorem dX11_withBell_16 : decode cX11_withBell 16 = .ok (.lload 4, 2) := by decide +kernel
theorem dX11_withBell_18 : decode cX11_withBell 18 = .ok (.lmul, 1) := by decide +kernel
theorem dX11_withBell_19 : decode cX11_withBell 19 = .ok (.aload_n 0, 1) := by decide +kernel
theorem dX11_withBell_20 : decode cX11_withBell 20 = .ok (.iload_n 3, 1) := by decide +kernel
theorem dX11_withBell_21 : decode cX11_withBell 21 = .ok (.iload 6, 2) := by decide +kernel
theorem dX11_withBell_23 : decode cX11_withBell 23 = .ok (.invokevirtual 405, 3) := by decide +kernel
theorem dX11_withBell_26 : decode cX11_withBell 26 = .ok (.i2l, 1) := by decide +kernel
theorem dX11_withBell_27 : decode cX11_withBell 27 = .ok (.ladd, 1) := by decide +kernel
theorem dX11_withBell_28 : decode cX11_withBell 28 = .ok (.lstore 4, 2) := by decide +kernel
theorem dX11_withBell_30 : decode cX11_withBell 30 = .ok (.iinc 6 1, 3) := by decide +kernel
theorem dX11_withBell_33 : decode cX11_withBell 33 = .ok (.goto (-27), 3) := by decide +kernel
theorem dX11_withBell_36 : decode cX11_withBell 36 = .ok (.iconst 0, 1) := by decide +kernel
theorem dX11_withBell_37 : decode cX11_withBell 37 = .ok (.istore 6, 2) := by decide +kernel
theorem dX11_withBell_39 : decode cX11_withBell 39 = .ok (.iload 6, 2) := by decide +kernel
theorem dX11_withBell_41 : decode cX11_withBell 41 = .ok (.iconst 5, 1) := by decide +kernel
theorem dX11_withBell_42 : decode cX11_withBell 42 = .ok (.if_icmp .ge 34, 3) := by decide +kernel
theorem dX11_withBell_45 : decode cX11_withBell 45 = .ok (.ldc2_w 384, 3) := by decide +kernel
theorem dX11_withBell_48 : decode cX11_withBell 48 = .ok (.lload 4, 2) := by decide +kernel
theorem dX11_withBell_50 : decode cX11_withBell 50 = .ok (.lmul, 1) := by decide +kernel
theorem dX11_withBell_51 : decode cX11_withBell 51 = .ok (.aload_n 0, 1) := by decide +kernel
theorem dX11_withBell_52 : decode cX11_withBell 52 = .ok (.getfield 16, 3) := by decide +kernel
theorem dX11_withBell_55 : decode cX11_withBell 55 = .ok (.getfield 140, 3) := by decide +kernel
theorem dX11_withBell_58 : decode cX11_withBell 58 = .ok (.iload_n 3, 1) := by decide +kernel
theorem dX11_withBell_59 : decode cX11_withBell 59 = .ok (.aaload, 1) := by decide +kernel
theorem dX11_withBell_60 : decode cX11_withBell 60 = .ok (.getfield 144, 3) := by decide +kernel
theorem dX11_withBell_63 : decode cX11_withBell 63 = .ok (.iload 6, 2) := by decide +kernel
theorem dX11_withBell_65 : decode cX11_withBell 65 = .ok (.iaload, 1) := by decide +kernel
theorem dX11_withBell_66 : decode cX11_withBell 66 = .ok (.i2l, 1) := by decide +kernel
theorem dX11_withBell_67 : decode cX11_withBell 67 = .ok (.ladd, 1) := by decide +kernel
theorem dX11_withBell_68 : decode cX11_withBell 68 = .ok (.lstore 4, 2) := by decide +kernel
theorem dX11_withBell_70 : decode cX11_withBell 70 = .ok (.iinc 6 1, 3) := by decide +kernel
theorem dX11_withBell_73 : decode cX11_withBell 73 = .ok (.goto (-34), 3) := by decide +kernel
theorem dX11_withBell_76 : decode cX11_withBell 76 = .ok (.ldc2_w 384, 3) := by decide +kernel
theorem dX11_withBell_79 : decode cX11_withBell 79 = .ok (.lload 4, 2) := by decide +kernel
theorem dX11_withBell_81 : decode cX11_withBell 81 = .ok (.lmul, 1) := by decide +kernel
theorem dX11_withBell_82 : decode cX11_withBell 82 = .ok (.aload_n 0, 1) := by decide +kernel
theorem dX11_withBell_83 : decode cX11_withBell 83 = .ok (.iload_n 3, 1) := by decide +kernel
theorem dX11_withBell_84 : decode cX11_withBell 84 = .ok (.aload_n 0, 1) := by decide +kernel
theorem dX11_withBell_85 : decode cX11_withBell 85 = .ok (.getfield 85, 3) := by decide +kernel
theorem dX11_withBell_88 : decode cX11_withBell 88 = .ok (.invokevirtual 408, 3) := by decide +kernel
theorem dX11_withBell_91 : decode cX11_withBell 91 = .ok (.i2l, 1) := by decide +kernel
theorem dX11_withBell_92 : decode cX11_withBell 92 = .ok (.ladd, 1) := by decide +kernel
theorem dX11_withBell_93 : decode cX11_withBell 93 = .ok (.lreturn, 1) := by decide +kernel
theorem dX11_isFrom_0 : decode cX11_isFrom 0 = .ok (.iload_n 0, 1) := by decide +kernel
theorem dX11_isFrom_1 : decode cX11_isFrom 1 = .ok (.iload_n 1, 1) := by decide +kernel
theorem dX11_isFrom_2 : decode cX11_isFrom 2 = .ok (.if_icmp .lt 12, 3) := by decide +kernel
theorem dX11_isFrom_5 : decode cX11_isFrom 5 = .ok (.iload_n 0, 1) := by decide +kernel
theorem dX11_isFrom_6 : decode cX11_isFrom 6 = .ok (.iload_n 2, 1) := by decide +kernel
theorem dX11_isFrom_7 : decode cX11_isFrom 7 = .ok (.if_icmp .gt 7, 3) := by decide +kernel
theorem dX11_isFrom_10 : decode cX11_isFrom 10 = .ok (.iconst 1, 1) := by decide +kernel
theorem dX11_isFrom_11 : decode cX11_isFrom 11 = .ok (.goto 4, 3) := by decide +kernel
theorem dX11_isFrom_14 : decode cX11_isFrom 14 = .ok (.iconst 0, 1) := by decide +kernel
theorem dX11_isFrom_15 : decode cX11_isFrom 15 = .ok (.ireturn, 1) := by decide +kernel
theorem dX11_isWeek_0 : decode cX11_isWeek 0 = .ok (.iload_n 0, 1) := by decide +kernel
theorem dX11_isWeek_1 : decode cX11_isWeek 1 = .ok (.iconst 0, 1) := by decide +kernel
theorem dX11_isWeek_2 : decode cX11_isWeek 2 = .ok (.sipush 199, 3) := by decide +kernel
theorem dX11_isWeek_5 : decode cX11_isWeek 5 = .ok (.invokestatic 81, 3) := by decide +kernel
theorem dX11_isWeek_8 : decode cX11_isWeek 8 = .ok (.ireturn, 1) := by decide +kernel
theorem dX11_isLand_0 : decode cX11_isLand 0 = .ok (.iload_n 0, 1) := by decide +kernel
theorem dX11_isLand_1 : decode cX11_isLand 1 = .ok (.iconst 0, 1) := by decide +kernel
theorem dX11_isLand_2 : decode cX11_isLand 2 = .ok (.iconst 3, 1) := by decide +kernel
theorem dX11_isLand_3 : decode cX11_isLand 3 = .ok (.invokestatic 81, 3) := by decide +kernel
theorem dX11_isLand_6 : decode cX11_isLand 6 = .ok (.ireturn, 1) := by decide +kernel
theorem dX11_isProof_0 : decode cX11_isProof 0 = .ok (.iload_n 0, 1) := by decide +kernel
theorem dX11_isProof_1 : decode cX11_isProof 1 = .ok (.iconst 0, 1) := by decide +kernel
theorem dX11_isProof_2 : decode cX11_isProof 2 = .ok (.iconst 4, 1) := by decide +kernel
theorem dX11_isProof_3 : decode cX11_isProof 3 = .ok (.invokestatic 81, 3) := by decide +kernel
theorem dX11_isProof_6 : decode cX11_isProof 6 = .ok (.ireturn, 1) := by decide +kernel
theorem dX11_isSheet_0 : decode cX11_isSheet 0 = .ok (.iload_n 0, 1) := by decide +kernel
theorem dX11_isSheet_1 : decode cX11_isSheet 1 = .ok (.iconst 0, 1) := by decide +kernel
theorem dX11_isSheet_2 : decode cX11_isSheet 2 = .ok (.iconst 3, 1) := by decide +kernel
theorem dX11_isSheet_3 : decode cX11_isSheet 3 = .ok (.invokestatic 81, 3) := by decide +kernel
theorem dX11_isSheet_6 : decode cX11_isSheet 6 = .ok (.ireturn, 1) := by decide +kernel
theorem dX11_isForm_0 : decode cX11_isForm 0 = .ok (.iload_n 0, 1) := by decide +kernel
theorem dX11_isForm_1 : decode cX11_isForm 1 = .ok (.iconst 0, 1) := by decide +kernel
theorem dX11_isForm_2 : decode cX11_isForm 2 = .ok (.iconst 2, 1) := by decide +kernel
theorem dX11_isForm_3 : decode cX11_isForm 3 = .ok (.invokestatic 81, 3) := by decide +kernel
theorem dX11_isForm_6 : decode cX11_isForm 6 = .ok (.ireturn, 1) := by decide +kernel
theorem dX11_isParish_0 : decode cX11_isParish 0 = .ok (.iload_n 1, 1) := by decide +kernel
theorem dX11_isParish_1 : decode cX11_isParish 1 = .ok (.iconst 0, 1) := by decide +kernel
theorem dX11_isParish_2 : decode cX11_isParish 2 = .ok (.aload_n 0, 1) := by decide +kernel
theorem dX11_isParish_3 : decode cX11_isParish 3 = .ok (.getfield 93, 3) := by decide +kernel
theorem dX11_isParish_6 : decode cX11_isParish 6 = .ok (.iconst 1, 1) := by decide +kernel
theorem dX11_isParish_7 : decode cX11_isParish 7 = .ok (.isub, 1) := by decide +kernel
theorem dX11_isParish_8 : decode cX11_isParish 8 = .ok (.invokestatic 81, 3) := by decide +kernel
theorem dX11_isParish_11 : decode cX11_isParish 11 = .ok (.ireturn, 1) := by decide +kernel
theorem dX11_isUnnamed_0 : decode cX11_isUnnamed 0 = .ok (.iload_n 1, 1) := by decide +kernel
theorem dX11_isUnnamed_1 : decode cX11_isUnnamed 1 = .ok (.iconst 0, 1) := by decide +kernel
theorem dX11_isUnnamed_2 : decode cX11_isUnnamed 2 = .ok (.aload_n 0, 1) := by decide +kernel
theorem dX11_isUnnamed_3 : decode cX11_isUnnamed 3 = .ok (.getfield 223, 3) := by decide +kernel
theorem dX11_isUnnamed_6 : decode cX11_isUnnamed 6 = .ok (.iconst 1, 1) := by decide +kernel
theorem dX11_isUnnamed_7 : decode cX11_isUnnamed 7 = .ok (.isub, 1) := by decide +kernel
theorem dX11_isUnnamed_8 : decode cX11_isUnnamed 8 = .ok (.invokestatic 81, 3) := by decide +kernel
theorem dX11_isUnnamed_11 : decode cX11_isUnnamed 11 = .ok (.ireturn, 1) := by decide +kernel
theorem dX11_isBatch_0 : decode cX11_isBatch 0 = .ok (.iload_n 1, 1) := by decide +kernel
theorem dX11_isBatch_1 : decode cX11_isBatch 1 = .ok (.iconst 0, 1) := by decide +kernel
theorem dX11_isBatch_2 : decode cX11_isBatch 2 = .ok (.aload_n 0, 1) := by decide +kernel
theorem dX11_isBatch_3 : decode cX11_isBatch 3 = .ok (.getfield 274, 3) := by decide +kernel
theorem dX11_isBatch_6 : decode cX11_isBatch 6 = .ok (.iconst 1, 1) := by decide +kernel
theorem dX11_isBatch_7 : decode cX11_isBatch 7 = .ok (.isub, 1) := by decide +kernel
theorem dX11_isBatch_8 : decode cX11_isBatch 8 = .ok (.invokestatic 81, 3) := by decide +kernel
theorem dX11_isBatch_11 : decode cX11_isBatch 11 = .ok (.ireturn, 1) := by decide +kernel
theorem dX11_mayBeBell_0 : decode cX11_mayBeBell 0 = .ok (.aload_n 0, 1) := by decide +kernel
theorem dX11_mayBeBell_1 : decode cX11_mayBeBell 1 = .ok (.iload_n 1, 1) := by decide +kernel
theorem dX11_mayBeBell_2 : decode cX11_mayBeBell 2 = .ok (.invokevirtual 96, 3) := by decide +kernel
theorem dX11_mayBeBell_5 : decode cX11_mayBeBell 5 = .ok (.ifCond .eq 42, 3) := by decide +kernel
theorem dX11_mayBeBell_8 : decode cX11_mayBeBell 8 = .ok (.iload_n 2, 1) := by decide +kernel
theorem dX11_mayBeBell_9 : decode cX11_mayBeBell 9 = .ok (.iconst 1, 1) := by decide +kernel
theorem dX11_mayBeBell_10 : decode cX11_mayBeBell 10 = .ok (.sipush 9999, 3) := by decide +kernel
theorem dX11_mayBeBell_13 : decode cX11_mayBeBell 13 = .ok (.invokestatic 81, 3) := by decide +kernel
theorem dX11_mayBeBell_16 : decode cX11_mayBeBell 16 = .ok (.ifCond .eq 31, 3) := by decide +kernel
theorem dX11_mayBeBell_19 : decode cX11_mayBeBell 19 = .ok (.iload_n 3, 1) := by decide +kernel
theorem dX11_mayBeBell_20 : decode cX11_mayBeBell 20 = .ok (.sipush 1000, 3) := by decide +kernel
theorem dX11_mayBeBell_23 : decode cX11_mayBeBell 23 = .ok (.sipush 1939, 3) := by decide +kernel
theorem dX11_mayBeBell_26 : decode cX11_mayBeBell 26 = .ok (.invokestatic 81, 3) := by decide +kernel
theorem dX11_mayBeBell_29 : decode cX11_mayBeBell 29 = .ok (.ifCond .eq 18, 3) := by decide +kernel
theorem dX11_mayBeBell_32 : decode cX11_mayBeBell 32 = .ok (.iload 4, 2) := by decide +kernel
theorem dX11_mayBeBell_34 : decode cX11_mayBeBell 34 = .ok (.iconst 0, 1) := by decide +kernel
theorem dX11_mayBeBell_35 : decode cX11_mayBeBell 35 = .ok (.bipush 30, 2) := by decide +kernel
theorem dX11_mayBeBell_37 : decode cX11_mayBeBell 37 = .ok (.invokestatic 81, 3) := by decide +kernel
theorem dX11_mayBeBell_40 : decode cX11_mayBeBell 40 = .ok (.ifCond .eq 7, 3) := by decide +kernel
theorem dX11_mayBeBell_43 : decode cX11_mayBeBell 43 = .ok (.iconst 1, 1) := by decide +kernel
theorem dX11_mayBeBell_44 : decode cX11_mayBeBell 44 = .ok (.goto 4, 3) := by decide +kernel
theorem dX11_mayBeBell_47 : decode cX11_mayBeBell 47 = .ok (.iconst 0, 1) := by decide +kernel
theorem dX11_mayBeBell_48 : decode cX11_mayBeBell 48 = .ok (.ireturn, 1) := by decide +kernel
theorem dX11_mayBeTold_0 : decode cX11_mayBeTold 0 = .ok (.iload_n 1, 1) := by decide +kernel
theorem dX11_mayBeTold_1 : decode cX11_mayBeTold 1 = .ok (.ifCond .le 28, 3) := by decide +kernel
theorem dX11_mayBeTold_4 : decode cX11_mayBeTold 4 = .ok (.iload_n 1, 1) := by decide +kernel
theorem dX11_mayBeTold_5 : decode cX11_mayBeTold 5 = .ok (.aload_n 0, 1) := by decide +kernel
theorem dX11_mayBeTold_6 : decode cX11_mayBeTold 6 = .ok (.getfield 16, 3) := by decide +kernel
theorem dX11_mayBeTold_9 : decode cX11_mayBeTold 9 = .ok (.getfield 222, 3) := by decide +kernel
theorem dX11_mayBeTold_12 : decode cX11_mayBeTold 12 = .ok (.ishr, 1) := by decide +kernel
theorem dX11_mayBeTold_13 : decode cX11_mayBeTold 13 = .ok (.ifCond .ne 16, 3) := by decide +kernel
theorem dX11_mayBeTold_16 : decode cX11_mayBeTold 16 = .ok (.iload_n 1, 1) := by decide +kernel
theorem dX11_mayBeTold_17 : decode cX11_mayBeTold 17 = .ok (.invokestatic 411, 3) := by decide +kernel
theorem dX11_mayBeTold_20 : decode cX11_mayBeTold 20 = .ok (.bipush 12, 2) := by decide +kernel
theorem dX11_mayBeTold_22 : decode cX11_mayBeTold 22 = .ok (.if_icmp .gt 7, 3) := by decide +kernel
theorem dX11_mayBeTold_25 : decode cX11_mayBeTold 25 = .ok (.iconst 1, 1) := by decide +kernel
theorem dX11_mayBeTold_26 : decode cX11_mayBeTold 26 = .ok (.goto 4, 3) := by decide +kernel
theorem dX11_mayBeTold_29 : decode cX11_mayBeTold 29 = .ok (.iconst 0, 1) := by decide +kernel
theorem dX11_mayBeTold_30 : decode cX11_mayBeTold 30 = .ok (.ireturn, 1) := by decide +kernel
theorem dX11_mayFollow_0 : decode cX11_mayFollow 0 = .ok (.iload_n 1, 1) := by decide +kernel
theorem dX11_mayFollow_1 : decode cX11_mayFollow 1 = .ok (.tableswitch 118 0 5 #[39, 50, 65, 85, 96, 107], 39) := by decide +kernel
theorem dX11_mayFollow_40 : decode cX11_mayFollow 40 = .ok (.iload_n 0, 1) := by decide +kernel
theorem dX11_mayFollow_41 : decode cX11_mayFollow 41 = .ok (.iconst 1, 1) := by decide +kernel
theorem dX11_mayFollow_42 : decode cX11_mayFollow 42 = .ok (.if_icmp .ne 7, 3) := by decide +kernel
theorem dX11_mayFollow_45 : decode cX11_mayFollow 45 = .ok (.iconst 1, 1) := by decide +kernel
theorem dX11_mayFollow_46 : decode cX11_mayFollow 46 = .ok (.goto 4, 3) := by decide +kernel
theorem dX11_mayFollow_49 : decode cX11_mayFollow 49 = .ok (.iconst 0, 1) := by decide +kernel
theorem dX11_mayFollow_50 : decode cX11_mayFollow 50 = .ok (.ireturn, 1) := by decide +kernel
theorem dX11_mayFollow_51 : decode cX11_mayFollow 51 = .ok (.iload_n 0, 1) := by decide +kernel
theorem dX11_mayFollow_52 : decode cX11_mayFollow 52 = .ok (.ifCond .eq 8, 3) := by decide +kernel
theorem dX11_mayFollow_55 : decode cX11_mayFollow 55 = .ok (.iload_n 0, 1) := by decide +kernel
theorem dX11_mayFollow_56 : decode cX11_mayFollow 56 = .ok (.iconst 5, 1) := by decide +kernel
theorem dX11_mayFollow_57 : decode cX11_mayFollow 57 = .ok (.if_icmp .ne 7, 3) := by decide +kernel
theorem dX11_mayFollow_60 : decode cX11_mayFollow 60 = .ok (.iconst 1, 1) := by decide +kernel
theorem dX11_mayFollow_61 : decode cX11_mayFollow 61 = .ok (.goto 4, 3) := by decide +kernel
theorem dX11_mayFollow_64 : decode cX11_mayFollow 64 = .ok (.iconst 0, 1) := by decide +kernel
theorem dX11_mayFollow_65 : decode cX11_mayFollow 65 = .ok (.ireturn, 1) := by decide +kernel
theorem dX11_mayFollow_66 : decode cX11_mayFollow 66 = .ok (.iload_n 0, 1) := by decide +kernel
theorem dX11_mayFollow_67 : decode cX11_mayFollow 67 = .ok (.ifCond .eq 13, 3) := by decide +kernel
theorem dX11_mayFollow_70 : decode cX11_mayFollow 70 = .ok (.iload_n 0, 1) := by decide +kernel
theorem dX11_mayFollow_71 : decode cX11_mayFollow 71 = .ok (.iconst 5, 1) := by decide +kernel
theorem dX11_mayFollow_72 : decode cX11_mayFollow 72 = .ok (.if_icmp .eq 8, 3) := by decide +kernel
theorem dX11_mayFollow_75 : decode cX11_mayFollow 75 = .ok (.iload_n 0, 1) := by decide +kernel
theorem dX11_mayFollow_76 : decode cX11_mayFollow 76 = .ok (.iconst 1, 1) := by decide +kernel
theorem dX11_mayFollow_77 : decode cX11_mayFollow 77 = .ok (.if_icmp .ne 7, 3) := by decide +kernel
theorem dX11_mayFollow_80 : decode cX11_mayFollow 80 = .ok (.iconst 1, 1) := by decide +kernel
theorem dX11_mayFollow_81 : decode cX11_mayFollow 81 = .ok (.goto 4, 3) := by decide +kernel
theorem dX11_mayFollow_84 : decode cX11_mayFollow 84 = .ok (.iconst 0, 1) := by decide +kernel
theorem dX11_mayFollow_85 : decode cX11_mayFollow 85 = .ok (.ireturn, 1) := by decide +kernel
theorem dX11_mayFollow_86 : decode cX11_mayFollow 86 = .ok (.iload_n 0, 1) := by decide +kernel
theorem dX11_mayFollow_87 : decode cX11_mayFollow 87 = .ok (.iconst 2, 1) := by decide +kernel
theorem dX11_mayFollow_88 : decode cX11_mayFollow 88 = .ok (.if_icmp .ne 7, 3) := by decide +kernel
theorem dX11_mayFollow_91 : decode cX11_mayFollow 91 = .ok (.iconst 1, 1) := by decide +kernel
theorem dX11_mayFollow_92 : decode cX11_mayFollow 92 = .ok (.goto 4, 3) := by decide +kernel
theorem dX11_mayFollow_95 : decode cX11_mayFollow 95 = .ok (.iconst 0, 1) := by decide +kernel
theorem dX11_mayFollow_96 : decode cX11_mayFollow 96 = .ok (.ireturn, 1) := by decide +kernel
theorem dX11_mayFollow_97 : decode cX11_mayFollow 97 = .ok (.iload_n 0, 1) := by decide +kernel
theorem dX11_mayFollow_98 : decode cX11_mayFollow 98 = .ok (.iconst 3, 1) := by decide +kernel
theorem dX11_mayFollow_99 : decode cX11_mayFollow 99 = .ok (.if_icmp .ne 7, 3) := by decide +kernel
theorem dX11_mayFollow_102 : decode cX11_mayFollow 102 = .ok (.iconst 1, 1) := by decide +kernel
theorem dX11_mayFollow_103 : decode cX11_mayFollow 103 = .ok (.goto 4, 3) := by decide +kernel
theorem dX11_mayFollow_106 : decode cX11_mayFollow 106 = .ok (.iconst 0, 1) := by decide +kernel
theorem dX11_mayFollow_107 : decode cX11_mayFollow 107 = .ok (.ireturn, 1) := by decide +kernel
theorem dX11_mayFollow_108 : decode cX11_mayFollow 108 = .ok (.iload_n 0, 1) := by decide +kernel
theorem dX11_mayFollow_109 : decode cX11_mayFollow 109 = .ok (.iconst 3, 1) := by decide +kernel
theorem dX11_mayFollow_110 : decode cX11_mayFollow 110 = .ok (.if_icmp .ne 7, 3) := by decide +kernel
theorem dX11_mayFollow_113 : decode cX11_mayFollow 113 = .ok (.iconst 1, 1) := by decide +kernel
theorem dX11_mayFollow_114 : decode cX11_mayFollow 114 = .ok (.goto 4, 3) := by decide +kernel
theorem dX11_mayFollow_117 : decode cX11_mayFollow 117 = .ok (.iconst 0, 1) := by decide +kernel
theorem dX11_mayFollow_118 : decode cX11_mayFollow 118 = .ok (.ireturn, 1) := by decide +kernel
theorem dX11_mayFollow_119 : decode cX11_mayFollow 119 = .ok (.iconst 0, 1) := by decide +kernel
theorem dX11_mayFollow_120 : decode cX11_mayFollow 120 = .ok (.ireturn, 1) := by decide +kernel
theorem dX11_finding_0 : decode cX11_finding 0 = .ok (.aload_n 0, 1) := by decide +kernel
theorem dX11_finding_1 : decode cX11_finding 1 = .ok (.iload_n 1, 1) := by decide +kernel
theorem dX11_finding_2 : decode cX11_finding 2 = .ok (.putfield 362, 3) := by decide +kernel
theorem dX11_finding_5 : decode cX11_finding 5 = .ok (.bipush (-10), 2) := by decide +kernel
theorem dX11_finding_7 : decode cX11_finding 7 = .ok (.iload_n 1, 1) := by decide +kernel
theorem dX11_finding_8 : decode cX11_finding 8 = .ok (.isub, 1) := by decide +kernel
theorem dX11_finding_9 : decode cX11_finding 9 = .ok (.ireturn, 1) := by decide +kernel
theorem dX11_findingAt_0 : decode cX11_findingAt 0 = .ok (.aload_n 0, 1) := by decide +kernel
theorem dX11_findingAt_1 : decode cX11_findingAt 1 = .ok (.getfield 76, 3) := by decide +kernel
theorem dX11_findingAt_4 : decode cX11_findingAt 4 = .ok (.iload_n 1, 1) := by decide +kernel
theorem dX11_findingAt_5 : decode cX11_findingAt 5 = .ok (.aaload, 1) := by decide +kernel
theorem dX11_findingAt_6 : decode cX11_findingAt 6 = .ok (.astore 4, 2) := by decide +kernel
theorem dX11_findingAt_8 : decode cX11_findingAt 8 = .ok (.aload 4, 2) := by decide +kernel
theorem dX11_findingAt_10 : decode cX11_findingAt 10 = .ok (.getfield 119, 3) := by decide +kernel
theorem dX11_findingAt_13 : decode cX11_findingAt 13 = .ok (.ifCond .eq 5, 3) := by decide +kernel
theorem dX11_findingAt_16 : decode cX11_findingAt 16 = .ok (.iconst 1, 1) := by decide +kernel
theorem dX11_findingAt_17 : decode cX11_findingAt 17 = .ok (.ireturn, 1) := by decide +kernel
theorem dX11_findingAt_18 : decode cX11_findingAt 18 = .ok (.aload 4, 2) := by decide +kernel
theorem dX11_findingAt_20 : decode cX11_findingAt 20 = .ok (.getfield 365, 3) := by decide +kernel
theorem dX11_findingAt_23 : decode cX11_findingAt 23 = .ok (.iload_n 2, 1) := by decide +kernel
theorem dX11_findingAt_24 : decode cX11_findingAt 24 = .ok (.if_icmp .eq 5, 3) := by decide +kernel
theorem dX11_findingAt_27 : decode cX11_findingAt 27 = .ok (.iconst 3, 1) := by decide +kernel
theorem dX11_findingAt_28 : decode cX11_findingAt 28 = .ok (.ireturn, 1) := by decide +kernel
theorem dX11_findingAt_29 : decode cX11_findingAt 29 = .ok (.aload 4, 2) := by decide +kernel
theorem dX11_findingAt_31 : decode cX11_findingAt 31 = .ok (.iload_n 3, 1) := by decide +kernel
theorem dX11_findingAt_32 : decode cX11_findingAt 32 = .ok (.iconst 1, 1) := by decide +kernel
theorem dX11_findingAt_33 : decode cX11_findingAt 33 = .ok (.invokevirtual 368, 3) := by decide +kernel
theorem dX11_findingAt_36 : decode cX11_findingAt 36 = .ok (.ifCond .eq 7, 3) := by decide +kernel
theorem dX11_findingAt_39 : decode cX11_findingAt 39 = .ok (.iconst 0, 1) := by decide +kernel
theorem dX11_findingAt_40 : decode cX11_findingAt 40 = .ok (.goto 4, 3) := by decide +kernel
theorem dX11_findingAt_43 : decode cX11_findingAt 43 = .ok (.iconst 2, 1) := by decide +kernel
theorem dX11_findingAt_44 : decode cX11_findingAt 44 = .ok (.ireturn, 1) := by decide +kernel
