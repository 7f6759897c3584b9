theorem d_R_init_44 : decode b_R_init 44 = .ok (.iconst 3, 1) := by decide +kernel
theorem d_R_init_45 : decode b_R_init 45 = .ok (.newarray .int, 2) := by decide +kernel
theorem d_R_init_47 : decode b_R_init 47 = .ok (.putfield 25, 3) := by decide +kernel
theorem d_R_init_50 : decode b_R_init 50 = .ok (.aload_n 0, 1) := by decide +kernel
theorem d_R_init_51 : decode b_R_init 51 = .ok (.bipush 24, 2) := by decide +kernel
theorem d_R_init_53 : decode b_R_init 53 = .ok (.newarray .int, 2) := by decide +kernel
theorem d_R_init_55 : decode b_R_init 55 = .ok (.putfield 28, 3) := by decide +kernel
theorem d_R_init_58 : decode b_R_init 58 = .ok (.aload_n 0, 1) := by decide +kernel
theorem d_R_init_59 : decode b_R_init 59 = .ok (.bipush 24, 2) := by decide +kernel
theorem d_R_init_61 : decode b_R_init 61 = .ok (.newarray .int, 2) := by decide +kernel
theorem d_R_init_63 : decode b_R_init 63 = .ok (.putfield 31, 3) := by decide +kernel
theorem d_R_init_66 : decode b_R_init 66 = .ok (.aload_n 0, 1) := by decide +kernel
theorem d_R_init_67 : decode b_R_init 67 = .ok (.bipush 24, 2) := by decide +kernel
theorem d_R_init_69 : decode b_R_init 69 = .ok (.newarray .int, 2) := by decide +kernel
theorem d_R_init_71 : decode b_R_init 71 = .ok (.putfield 34, 3) := by decide +kernel
theorem d_R_init_74 : decode b_R_init 74 = .ok (.aload_n 0, 1) := by decide +kernel
theorem d_R_init_75 : decode b_R_init 75 = .ok (.bipush 24, 2) := by decide +kernel
theorem d_R_init_77 : decode b_R_init 77 = .ok (.newarray .boolean, 2) := by decide +kernel
theorem d_R_init_79 : decode b_R_init 79 = .ok (.putfield 37, 3) := by decide +kernel
theorem d_R_init_82 : decode b_R_init 82 = .ok (.aload_n 0, 1) := by decide +kernel
theorem d_R_init_83 : decode b_R_init 83 = .ok (.bipush 72, 2) := by decide +kernel
theorem d_R_init_85 : decode b_R_init 85 = .ok (.newarray .int, 2) := by decide +kernel
theorem d_R_init_87 : decode b_R_init 87 = .ok (.putfield 41, 3) := by decide +kernel
theorem d_R_init_90 : decode b_R_init 90 = .ok (.aload_n 0, 1) := by decide +kernel
theorem d_R_init_91 : decode b_R_init 91 = .ok (.bipush 72, 2) := by decide +kernel
theorem d_R_init_93 : decode b_R_init 93 = .ok (.newarray .boolean, 2) := by decide +kernel
theorem d_R_init_95 : decode b_R_init 95 = .ok (.putfield 44, 3) := by decide +kernel
theorem d_R_init_98 : decode b_R_init 98 = .ok (.aload_n 0, 1) := by decide +kernel
theorem d_R_init_99 : decode b_R_init 99 = .ok (.iconst 5, 1) := by decide +kernel
theorem d_R_init_100 : decode b_R_init 100 = .ok (.newarray .long, 2) := by decide +kernel
theorem d_R_init_102 : decode b_R_init 102 = .ok (.putfield 47, 3) := by decide +kernel
theorem d_R_init_105 : decode b_R_init 105 = .ok (.return_, 1) := by decide +kernel
theorem d_R_vertex_0 : decode b_R_vertex 0 = .ok (.iload_n 1, 1) := by decide +kernel
theorem d_R_vertex_1 : decode b_R_vertex 1 = .ok (.iload_n 2, 1) := by decide +kernel
theorem d_R_vertex_2 : decode b_R_vertex 2 = .ok (.invokestatic 86, 3) := by decide +kernel
theorem d_R_vertex_5 : decode b_R_vertex 5 = .ok (.ifCond .eq 6, 3) := by decide +kernel
theorem d_R_vertex_8 : decode b_R_vertex 8 = .ok (.bipush (-2), 2) := by decide +kernel
theorem d_R_vertex_10 : decode b_R_vertex 10 = .ok (.ireturn, 1) := by decide +kernel
theorem d_R_vertex_11 : decode b_R_vertex 11 = .ok (.iconst 0, 1) := by decide +kernel
theorem d_R_vertex_12 : decode b_R_vertex 12 = .ok (.istore_n 3, 1) := by decide +kernel
theorem d_R_vertex_13 : decode b_R_vertex 13 = .ok (.iload_n 3, 1) := by decide +kernel
theorem d_R_vertex_14 : decode b_R_vertex 14 = .ok (.aload_n 0, 1) := by decide +kernel
theorem d_R_vertex_15 : decode b_R_vertex 15 = .ok (.getfield 65, 3) := by decide +kernel
theorem d_R_vertex_18 : decode b_R_vertex 18 = .ok (.if_icmp .ge 31, 3) := by decide +kernel
theorem d_R_vertex_21 : decode b_R_vertex 21 = .ok (.aload_n 0, 1) := by decide +kernel
theorem d_R_vertex_22 : decode b_R_vertex 22 = .ok (.getfield 7, 3) := by decide +kernel
theorem d_R_vertex_25 : decode b_R_vertex 25 = .ok (.iload_n 3, 1) := by decide +kernel
theorem d_R_vertex_26 : decode b_R_vertex 26 = .ok (.iaload, 1) := by decide +kernel
theorem d_R_vertex_27 : decode b_R_vertex 27 = .ok (.iload_n 1, 1) := by decide +kernel
theorem d_R_vertex_28 : decode b_R_vertex 28 = .ok (.if_icmp .ne 15, 3) := by decide +kernel
theorem d_R_vertex_31 : decode b_R_vertex 31 = .ok (.aload_n 0, 1) := by decide +kernel
theorem d_R_vertex_32 : decode b_R_vertex 32 = .ok (.getfield 13, 3) := by decide +kernel
theorem d_R_vertex_35 : decode b_R_vertex 35 = .ok (.iload_n 3, 1) := by decide +kernel
theorem d_R_vertex_36 : decode b_R_vertex 36 = .ok (.iaload, 1) := by decide +kernel
theorem d_R_vertex_37 : decode b_R_vertex 37 = .ok (.iload_n 2, 1) := by decide +kernel
theorem d_R_vertex_38 : decode b_R_vertex 38 = .ok (.if_icmp .ne 5, 3) := by decide +kernel
theorem d_R_vertex_41 : decode b_R_vertex 41 = .ok (.iload_n 3, 1) := by decide +kernel
theorem d_R_vertex_42 : decode b_R_vertex 42 = .ok (.ireturn, 1) := by decide +kernel
theorem d_R_vertex_43 : decode b_R_vertex 43 = .ok (.iinc 3 1, 3) := by decide +kernel
theorem d_R_vertex_46 : decode b_R_vertex 46 = .ok (.goto (-33), 3) := by decide +kernel
theorem d_R_vertex_49 : decode b_R_vertex 49 = .ok (.aload_n 0, 1) := by decide +kernel
theorem d_R_vertex_50 : decode b_R_vertex 50 = .ok (.getfield 65, 3) := by decide +kernel
theorem d_R_vertex_53 : decode b_R_vertex 53 = .ok (.bipush 12, 2) := by decide +kernel
theorem d_R_vertex_55 : decode b_R_vertex 55 = .ok (.if_icmp .ne 6, 3) := by decide +kernel
theorem d_R_vertex_58 : decode b_R_vertex 58 = .ok (.bipush (-3), 2) := by decide +kernel
theorem d_R_vertex_60 : decode b_R_vertex 60 = .ok (.ireturn, 1) := by decide +kernel
theorem d_R_vertex_61 : decode b_R_vertex 61 = .ok (.iconst 0, 1) := by decide +kernel
theorem d_R_vertex_62 : decode b_R_vertex 62 = .ok (.istore_n 3, 1) := by decide +kernel
theorem d_R_vertex_63 : decode b_R_vertex 63 = .ok (.iload_n 3, 1) := by decide +kernel
theorem d_R_vertex_64 : decode b_R_vertex 64 = .ok (.aload_n 0, 1) := by decide +kernel
theorem d_R_vertex_65 : decode b_R_vertex 65 = .ok (.getfield 83, 3) := by decide +kernel
theorem d_R_vertex_68 : decode b_R_vertex 68 = .ok (.if_icmp .ge 35, 3) := by decide +kernel
theorem d_R_vertex_71 : decode b_R_vertex 71 = .ok (.aload_n 0, 1) := by decide +kernel
theorem d_R_vertex_72 : decode b_R_vertex 72 = .ok (.aload_n 0, 1) := by decide +kernel
theorem d_R_vertex_73 : decode b_R_vertex 73 = .ok (.getfield 16, 3) := by decide +kernel
theorem d_R_vertex_76 : decode b_R_vertex 76 = .ok (.iload_n 3, 1) := by decide +kernel
theorem d_R_vertex_77 : decode b_R_vertex 77 = .ok (.iaload, 1) := by decide +kernel
theorem d_R_vertex_78 : decode b_R_vertex 78 = .ok (.aload_n 0, 1) := by decide +kernel
theorem d_R_vertex_79 : decode b_R_vertex 79 = .ok (.getfield 19, 3) := by decide +kernel
theorem d_R_vertex_82 : decode b_R_vertex 82 = .ok (.iload_n 3, 1) := by decide +kernel
theorem d_R_vertex_83 : decode b_R_vertex 83 = .ok (.iaload, 1) := by decide +kernel
theorem d_R_vertex_84 : decode b_R_vertex 84 = .ok (.iload_n 1, 1) := by decide +kernel
theorem d_R_vertex_85 : decode b_R_vertex 85 = .ok (.i2l, 1) := by decide +kernel
theorem d_R_vertex_86 : decode b_R_vertex 86 = .ok (.iload_n 2, 1) := by decide +kernel
theorem d_R_vertex_87 : decode b_R_vertex 87 = .ok (.i2l, 1) := by decide +kernel
theorem d_R_vertex_88 : decode b_R_vertex 88 = .ok (.invokevirtual 90, 3) := by decide +kernel
theorem d_R_vertex_91 : decode b_R_vertex 91 = .ok (.ifCond .eq 6, 3) := by decide +kernel
theorem d_R_vertex_94 : decode b_R_vertex 94 = .ok (.bipush (-4), 2) := by decide +kernel
theorem d_R_vertex_96 : decode b_R_vertex 96 = .ok (.ireturn, 1) := by decide +kernel
theorem d_R_vertex_97 : decode b_R_vertex 97 = .ok (.iinc 3 1, 3) := by decide +kernel
theorem d_R_vertex_100 : decode b_R_vertex 100 = .ok (.goto (-37), 3) := by decide +kernel
theorem d_R_vertex_103 : decode b_R_vertex 103 = .ok (.aload_n 0, 1) := by decide +kernel
theorem d_R_vertex_104 : decode b_R_vertex 104 = .ok (.getfield 7, 3) := by decide +kernel
theorem d_R_vertex_107 : decode b_R_vertex 107 = .ok (.aload_n 0, 1) := by decide +kernel
theorem d_R_vertex_108 : decode b_R_vertex 108 = .ok (.getfield 65, 3) := by decide +kernel
theorem d_R_vertex_111 : decode b_R_vertex 111 = .ok (.iload_n 1, 1) := by decide +kernel
theorem d_R_vertex_112 : decode b_R_vertex 112 = .ok (.iastore, 1) := by decide +kernel
theorem d_R_vertex_113 : decode b_R_vertex 113 = .ok (.aload_n 0, 1) := by decide +kernel
theorem d_R_vertex_114 : decode b_R_vertex 114 = .ok (.getfield 13, 3) := by decide +kernel
theorem d_R_vertex_117 : decode b_R_vertex 117 = .ok (.aload_n 0, 1) := by decide +kernel
theorem d_R_vertex_118 : decode b_R_vertex 118 = .ok (.getfield 65, 3) := by decide +kernel
theorem d_R_vertex_121 : decode b_R_vertex 121 = .ok (.iload_n 2, 1) := by decide +kernel
theorem d_R_vertex_122 : decode b_R_vertex 122 = .ok (.iastore, 1) := by decide +kernel
theorem d_R_vertex_123 : decode b_R_vertex 123 = .ok (.aload_n 0, 1) := by decide +kernel
theorem d_R_vertex_124 : decode b_R_vertex 124 = .ok (.dup, 1) := by decide +kernel
theorem d_R_vertex_125 : decode b_R_vertex 125 = .ok (.getfield 65, 3) := by decide +kernel
theorem d_R_vertex_128 : decode b_R_vertex 128 = .ok (.iconst 1, 1) := by decide +kernel
theorem d_R_vertex_129 : decode b_R_vertex 129 = .ok (.iadd, 1) := by decide +kernel
theorem d_R_vertex_130 : decode b_R_vertex 130 = .ok (.putfield 65, 3) := by decide +kernel
theorem d_R_vertex_133 : decode b_R_vertex 133 = .ok (.aload_n 0, 1) := by decide +kernel
theorem d_R_vertex_134 : decode b_R_vertex 134 = .ok (.getfield 65, 3) := by decide +kernel
theorem d_R_vertex_137 : decode b_R_vertex 137 = .ok (.iconst 1, 1) := by decide +kernel
theorem d_R_vertex_138 : decode b_R_vertex 138 = .ok (.isub, 1) := by decide +kernel
theorem d_R_vertex_139 : decode b_R_vertex 139 = .ok (.ireturn, 1) := by decide +kernel
theorem d_R_far_0 : decode b_R_far 0 = .ok (.iload_n 0, 1) := by decide +kernel
theorem d_R_far_1 : decode b_R_far 1 = .ok (.ldc 69, 2) := by decide +kernel
theorem d_R_far_3 : decode b_R_far 3 = .ok (.if_icmp .lt 21, 3) := by decide +kernel
theorem d_R_far_6 : decode b_R_far 6 = .ok (.iload_n 0, 1) := by decide +kernel
theorem d_R_far_7 : decode b_R_far 7 = .ok (.ldc 70, 2) := by decide +kernel
theorem d_R_far_9 : decode b_R_far 9 = .ok (.if_icmp .gt 15, 3) := by decide +kernel
theorem d_R_far_12 : decode b_R_far 12 = .ok (.iload_n 1, 1) := by decide +kernel
theorem d_R_far_13 : decode b_R_far 13 = .ok (.ldc 69, 2) := by decide +kernel
theorem d_R_far_15 : decode b_R_far 15 = .ok (.if_icmp .lt 9, 3) := by decide +kernel
theorem d_R_far_18 : decode b_R_far 18 = .ok (.iload_n 1, 1) := by decide +kernel
theorem d_R_far_19 : decode b_R_far 19 = .ok (.ldc 70, 2) := by decide +kernel
theorem d_R_far_21 : decode b_R_far 21 = .ok (.if_icmp .le 7, 3) := by decide +kernel
theorem d_R_far_24 : decode b_R_far 24 = .ok (.iconst 1, 1) := by decide +kernel
theorem d_R_far_25 : decode b_R_far 25 = .ok (.goto 4, 3) := by decide +kernel
theorem d_R_far_28 : decode b_R_far 28 = .ok (.iconst 0, 1) := by decide +kernel
theorem d_R_far_29 : decode b_R_far 29 = .ok (.ireturn, 1) := by decide +kernel
theorem d_R_on_0 : decode b_R_on 0 = .ok (.aload_n 0, 1) := by decide +kernel
theorem d_R_on_1 : decode b_R_on 1 = .ok (.getfield 7, 3) := by decide +kernel
theorem d_R_on_4 : decode b_R_on 4 = .ok (.iload_n 1, 1) := by decide +kernel
theorem d_R_on_5 : decode b_R_on 5 = .ok (.iaload, 1) := by decide +kernel
theorem d_R_on_6 : decode b_R_on 6 = .ok (.i2l, 1) := by decide +kernel
theorem d_R_on_7 : decode b_R_on 7 = .ok (.lload_n 3, 1) := by decide +kernel
theorem d_R_on_8 : decode b_R_on 8 = .ok (.lsub, 1) := by decide +kernel
theorem d_R_on_9 : decode b_R_on 9 = .ok (.aload_n 0, 1) := by decide +kernel
theorem d_R_on_10 : decode b_R_on 10 = .ok (.getfield 7, 3) := by decide +kernel
theorem d_R_on_13 : decode b_R_on 13 = .ok (.iload_n 2, 1) := by decide +kernel
theorem d_R_on_14 : decode b_R_on 14 = .ok (.iaload, 1) := by decide +kernel
theorem d_R_on_15 : decode b_R_on 15 = .ok (.i2l, 1) := by decide +kernel
theorem d_R_on_16 : decode b_R_on 16 = .ok (.lload_n 3, 1) := by decide +kernel
theorem d_R_on_17 : decode b_R_on 17 = .ok (.lsub, 1) := by decide +kernel
theorem d_R_on_18 : decode b_R_on 18 = .ok (.lmul, 1) := by decide +kernel
theorem d_R_on_19 : decode b_R_on 19 = .ok (.aload_n 0, 1) := by decide +kernel
theorem d_R_on_20 : decode b_R_on 20 = .ok (.getfield 13, 3) := by decide +kernel
theorem d_R_on_23 : decode b_R_on 23 = .ok (.iload_n 1, 1) := by decide +kernel
theorem d_R_on_24 : decode b_R_on 24 = .ok (.iaload, 1) := by decide +kernel
theorem d_R_on_25 : decode b_R_on 25 = .ok (.i2l, 1) := by decide +kernel
theorem d_R_on_26 : decode b_R_on 26 = .ok (.lload 5, 2) := by decide +kernel
theorem d_R_on_28 : decode b_R_on 28 = .ok (.lsub, 1) := by decide +kernel
theorem d_R_on_29 : decode b_R_on 29 = .ok (.aload_n 0, 1) := by decide +kernel
theorem d_R_on_30 : decode b_R_on 30 = .ok (.getfield 13, 3) := by decide +kernel
theorem d_R_on_33 : decode b_R_on 33 = .ok (.iload_n 2, 1) := by decide +kernel
theorem d_R_on_34 : decode b_R_on 34 = .ok (.iaload, 1) := by decide +kernel
theorem d_R_on_35 : decode b_R_on 35 = .ok (.i2l, 1) := by decide +kernel
theorem d_R_on_36 : decode b_R_on 36 = .ok (.lload 5, 2) := by decide +kernel
theorem d_R_on_38 : decode b_R_on 38 = .ok (.lsub, 1) := by decide +kernel
theorem d_R_on_39 : decode b_R_on 39 = .ok (.lmul, 1) := by decide +kernel
theorem d_R_on_40 : decode b_R_on 40 = .ok (.ladd, 1) := by decide +kernel
theorem d_R_on_41 : decode b_R_on 41 = .ok (.lstore 7, 2) := by decide +kernel
theorem d_R_on_43 : decode b_R_on 43 = .ok (.aload_n 0, 1) := by decide +kernel
theorem d_R_on_44 : decode b_R_on 44 = .ok (.iload_n 1, 1) := by decide +kernel
theorem d_R_on_45 : decode b_R_on 45 = .ok (.iload_n 2, 1) := by decide +kernel
theorem d_R_on_46 : decode b_R_on 46 = .ok (.lload_n 3, 1) := by decide +kernel
theorem d_R_on_47 : decode b_R_on 47 = .ok (.lload 5, 2) := by decide +kernel
theorem d_R_on_49 : decode b_R_on 49 = .ok (.invokevirtual 71, 3) := by decide +kernel
theorem d_R_on_52 : decode b_R_on 52 = .ok (.lconst 0, 1) := by decide +kernel
theorem d_R_on_53 : decode b_R_on 53 = .ok (.lcmp, 1) := by decide +kernel
theorem d_R_on_54 : decode b_R_on 54 = .ok (.ifCond .ne 14, 3) := by decide +kernel
theorem d_R_on_57 : decode b_R_on 57 = .ok (.lload 7, 2) := by decide +kernel
theorem d_R_on_59 : decode b_R_on 59 = .ok (.lconst 0, 1) := by decide +kernel
theorem d_R_on_60 : decode b_R_on 60 = .ok (.lcmp, 1) := by decide +kernel
theorem d_R_on_61 : decode b_R_on 61 = .ok (.ifCond .gt 7, 3) := by decide +kernel
theorem d_R_on_64 : decode b_R_on 64 = .ok (.iconst 1, 1) := by decide +kernel
theorem d_R_on_65 : decode b_R_on 65 = .ok (.goto 4, 3) := by decide +kernel
theorem d_R_on_68 : decode b_R_on 68 = .ok (.iconst 0, 1) := by decide +kernel
theorem d_R_on_69 : decode b_R_on 69 = .ok (.ireturn, 1) := by decide +kernel
theorem d_R_side_0 : decode b_R_side 0 = .ok (.aload_n 0, 1) := by decide +kernel
theorem d_R_side_1 : decode b_R_side 1 = .ok (.getfield 7, 3) := by decide +kernel
theorem d_R_side_4 : decode b_R_side 4 = .ok (.iload_n 1, 1) := by decide +kernel
theorem d_R_side_5 : decode b_R_side 5 = .ok (.iaload, 1) := by decide +kernel
theorem d_R_side_6 : decode b_R_side 6 = .ok (.i2l, 1) := by decide +kernel
theorem d_R_side_7 : decode b_R_side 7 = .ok (.aload_n 0, 1) := by decide +kernel
theorem d_R_side_8 : decode b_R_side 8 = .ok (.getfield 13, 3) := by decide +kernel
theorem d_R_side_11 : decode b_R_side 11 = .ok (.iload_n 1, 1) := by decide +kernel
theorem d_R_side_12 : decode b_R_side 12 = .ok (.iaload, 1) := by decide +kernel
theorem d_R_side_13 : decode b_R_side 13 = .ok (.i2l, 1) := by decide +kernel
theorem d_R_side_14 : decode b_R_side 14 = .ok (.aload_n 0, 1) := by decide +kernel
theorem d_R_side_15 : decode b_R_side 15 = .ok (.getfield 7, 3) := by decide +kernel
theorem d_R_side_18 : decode b_R_side 18 = .ok (.iload_n 2, 1) := by decide +kernel
theorem d_R_side_19 : decode b_R_side 19 = .ok (.iaload, 1) := by decide +kernel
theorem d_R_side_20 : decode b_R_side 20 = .ok (.i2l, 1) := by decide +kernel
theorem d_R_side_21 : decode b_R_side 21 = .ok (.aload_n 0, 1) := by decide +kernel
theorem d_R_side_22 : decode b_R_side 22 = .ok (.getfield 13, 3) := by decide +kernel
theorem d_R_side_25 : decode b_R_side 25 = .ok (.iload_n 2, 1) := by decide +kernel
theorem d_R_side_26 : decode b_R_side 26 = .ok (.iaload, 1) := by decide +kernel
theorem d_R_side_27 : decode b_R_side 27 = .ok (.i2l, 1) := by decide +kernel
theorem d_R_side_28 : decode b_R_side 28 = .ok (.lload_n 3, 1) := by decide +kernel
theorem d_R_side_29 : decode b_R_side 29 = .ok (.lload 5, 2) := by decide +kernel
theorem d_R_side_31 : decode b_R_side 31 = .ok (.invokestatic 51, 3) := by decide +kernel
theorem d_R_side_34 : decode b_R_side 34 = .ok (.lreturn, 1) := by decide +kernel
theorem d_R_cross_0 : decode b_R_cross 0 = .ok (.lload 4, 2) := by decide +kernel
theorem d_R_cross_2 : decode b_R_cross 2 = .ok (.lload_n 0, 1) := by decide +kernel
theorem d_R_cross_3 : decode b_R_cross 3 = .ok (.lsub, 1) := by decide +kernel
theorem d_R_cross_4 : decode b_R_cross 4 = .ok (.lload 10, 2) := by decide +kernel
theorem d_R_cross_6 : decode b_R_cross 6 = .ok (.lload_n 2, 1) := by decide +kernel
theorem d_R_cross_7 : decode b_R_cross 7 = .ok (.lsub, 1) := by decide +kernel
theorem d_R_cross_8 : decode b_R_cross 8 = .ok (.lmul, 1) := by decide +kernel
theorem d_R_cross_9 : decode b_R_cross 9 = .ok (.lload 6, 2) := by decide +kernel
theorem d_R_cross_11 : decode b_R_cross 11 = .ok (.lload_n 2, 1) := by decide +kernel
theorem d_R_cross_12 : decode b_R_cross 12 = .ok (.lsub, 1) := by decide +kernel
theorem d_R_cross_13 : decode b_R_cross 13 = .ok (.lload 8, 2) := by decide +kernel
theorem d_R_cross_15 : decode b_R_cross 15 = .ok (.lload_n 0, 1) := by decide +kernel
theorem d_R_cross_16 : decode b_R_cross 16 = .ok (.lsub, 1) := by decide +kernel
theorem d_R_cross_17 : decode b_R_cross 17 = .ok (.lmul, 1) := by decide +kernel
theorem d_R_cross_18 : decode b_R_cross 18 = .ok (.lsub, 1) := by decide +kernel
theorem d_R_cross_19 : decode b_R_cross 19 = .ok (.lreturn, 1) := by decide +kernel
theorem d_R_segment_0 : decode b_R_segment 0 = .ok (.aload_n 0, 1) := by decide +kernel
theorem d_R_segment_1 : decode b_R_segment 1 = .ok (.iload_n 1, 1) := by decide +kernel
theorem d_R_segment_2 : decode b_R_segment 2 = .ok (.invokevirtual 94, 3) := by decide +kernel
theorem d_R_segment_5 : decode b_R_segment 5 = .ok (.ifCond .eq 16, 3) := by decide +kernel
theorem d_R_segment_8 : decode b_R_segment 8 = .ok (.aload_n 0, 1) := by decide +kernel
theorem d_R_segment_9 : decode b_R_segment 9 = .ok (.iload_n 2, 1) := by decide +kernel
theorem d_R_segment_10 : decode b_R_segment 10 = .ok (.invokevirtual 94, 3) := by decide +kernel
theorem d_R_segment_13 : decode b_R_segment 13 = .ok (.ifCond .eq 8, 3) := by decide +kernel
theorem d_R_segment_16 : decode b_R_segment 16 = .ok (.iload_n 1, 1) := by decide +kernel
theorem d_R_segment_17 : decode b_R_segment 17 = .ok (.iload_n 2, 1) := by decide +kernel
theorem d_R_segment_18 : decode b_R_segment 18 = .ok (.if_icmp .ne 6, 3) := by decide +kernel
theorem d_R_segment_21 : decode b_R_segment 21 = .ok (.bipush (-2), 2) := by decide +kernel
theorem d_R_segment_23 : decode b_R_segment 23 = .ok (.ireturn, 1) := by decide +kernel
theorem d_R_segment_24 : decode b_R_segment 24 = .ok (.aload_n 0, 1) := by decide +kernel
theorem d_R_segment_25 : decode b_R_segment 25 = .ok (.iload_n 1, 1) := by decide +kernel
theorem d_R_segment_26 : decode b_R_segment 26 = .ok (.iload_n 2, 1) := by decide +kernel
theorem d_R_segment_27 : decode b_R_segment 27 = .ok (.invokevirtual 98, 3) := by decide +kernel
theorem d_R_segment_30 : decode b_R_segment 30 = .ok (.ifCond .ne 12, 3) := by decide +kernel
theorem d_R_segment_33 : decode b_R_segment 33 = .ok (.aload_n 0, 1) := by decide +kernel
theorem d_R_segment_34 : decode b_R_segment 34 = .ok (.getfield 83, 3) := by decide +kernel
theorem d_R_segment_37 : decode b_R_segment 37 = .ok (.bipush 10, 2) := by decide +kernel
theorem d_R_segment_39 : decode b_R_segment 39 = .ok (.if_icmp .ne 6, 3) := by decide +kernel
theorem d_R_segment_42 : decode b_R_segment 42 = .ok (.bipush (-3), 2) := by decide +kernel
theorem d_R_segment_44 : decode b_R_segment 44 = .ok (.ireturn, 1) := by decide +kernel
theorem d_R_segment_45 : decode b_R_segment 45 = .ok (.iconst 0, 1) := by decide +kernel
theorem d_R_segment_46 : decode b_R_segment 46 = .ok (.istore_n 3, 1) := by decide +kernel
theorem d_R_segment_47 : decode b_R_segment 47 = .ok (.iload_n 3, 1) := by decide +kernel
theorem d_R_segment_48 : decode b_R_segment 48 = .ok (.aload_n 0, 1) := by decide +kernel
theorem d_R_segment_49 : decode b_R_segment 49 = .ok (.getfield 65, 3) := by decide +kernel
theorem d_R_segment_52 : decode b_R_segment 52 = .ok (.if_icmp .ge 45, 3) := by decide +kernel
theorem d_R_segment_55 : decode b_R_segment 55 = .ok (.iload_n 3, 1) := by decide +kernel
theorem d_R_segment_56 : decode b_R_segment 56 = .ok (.iload_n 1, 1) := by decide +kernel
theorem d_R_segment_57 : decode b_R_segment 57 = .ok (.if_icmp .eq 34, 3) := by decide +kernel
theorem d_R_segment_60 : decode b_R_segment 60 = .ok (.iload_n 3, 1) := by decide +kernel
theorem d_R_segment_61 : decode b_R_segment 61 = .ok (.iload_n 2, 1) := by decide +kernel
theorem d_R_segment_62 : decode b_R_segment 62 = .ok (.if_icmp .eq 29, 3) := by decide +kernel
theorem d_R_segment_65 : decode b_R_segment 65 = .ok (.aload_n 0, 1) := by decide +kernel
theorem d_R_segment_66 : decode b_R_segment 66 = .ok (.iload_n 1, 1) := by decide +kernel
theorem d_R_segment_67 : decode b_R_segment 67 = .ok (.iload_n 2, 1) := by decide +kernel
theorem d_R_segment_68 : decode b_R_segment 68 = .ok (.aload_n 0, 1) := by decide +kernel
theorem d_R_segment_69 : decode b_R_segment 69 = .ok (.getfield 7, 3) := by decide +kernel
theorem d_R_segment_72 : decode b_R_segment 72 = .ok (.iload_n 3, 1) := by decide +kernel
theorem d_R_segment_73 : decode b_R_segment 73 = .ok (.iaload, 1) := by decide +kernel
theorem d_R_segment_74 : decode b_R_segment 74 = .ok (.i2l, 1) := by decide +kernel
theorem d_R_segment_75 : decode b_R_segment 75 = .ok (.aload_n 0, 1) := by decide +kernel
theorem d_R_segment_76 : decode b_R_segment 76 = .ok (.getfield 13, 3) := by decide +kernel
theorem d_R_segment_79 : decode b_R_segment 79 = .ok (.iload_n 3, 1) := by decide +kernel
theorem d_R_segment_80 : decode b_R_segment 80 = .ok (.iaload, 1) := by decide +kernel
theorem d_R_segment_81 : decode b_R_segment 81 = .ok (.i2l, 1) := by decide +kernel
theorem d_R_segment_82 : decode b_R_segment 82 = .ok (.invokevirtual 90, 3) := by decide +kernel
theorem d_R_segment_85 : decode b_R_segment 85 = .ok (.ifCond .eq 6, 3) := by decide +kernel
theorem d_R_segment_88 : decode b_R_segment 88 = .ok (.bipush (-4), 2) := by decide +kernel
theorem d_R_segment_90 : decode b_R_segment 90 = .ok (.ireturn, 1) := by decide +kernel
theorem d_R_segment_91 : decode b_R_segment 91 = .ok (.iinc 3 1, 3) := by decide +kernel
theorem d_R_segment_94 : decode b_R_segment 94 = .ok (.goto (-47), 3) := by decide +kernel
theorem d_R_segment_97 : decode b_R_segment 97 = .ok (.iconst 0, 1) := by decide +kernel
theorem d_R_segment_98 : decode b_R_segment 98 = .ok (.istore_n 3, 1) := by decide +kernel
theorem d_R_segment_99 : decode b_R_segment 99 = .ok (.iload_n 3, 1) := by decide +kernel
theorem d_R_segment_100 : decode b_R_segment 100 = .ok (.aload_n 0, 1) := by decide +kernel
theorem d_R_segment_101 : decode b_R_segment 101 = .ok (.getfield 83, 3) := by decide +kernel
theorem d_R_segment_104 : decode b_R_segment 104 = .ok (.if_icmp .ge 33, 3) := by decide +kernel
theorem d_R_segment_107 : decode b_R_segment 107 = .ok (.aload_n 0, 1) := by decide +kernel
theorem d_R_segment_108 : decode b_R_segment 108 = .ok (.iload_n 1, 1) := by decide +kernel
theorem d_R_segment_109 : decode b_R_segment 109 = .ok (.iload_n 2, 1) := by decide +kernel
theorem d_R_segment_110 : decode b_R_segment 110 = .ok (.aload_n 0, 1) := by decide +kernel
theorem d_R_segment_111 : decode b_R_segment 111 = .ok (.getfield 16, 3) := by decide +kernel
theorem d_R_segment_114 : decode b_R_segment 114 = .ok (.iload_n 3, 1) := by decide +kernel
theorem d_R_segment_115 : decode b_R_segment 115 = .ok (.iaload, 1) := by decide +kernel
theorem d_R_segment_116 : decode b_R_segment 116 = .ok (.aload_n 0, 1) := by decide +kernel
theorem d_R_segment_117 : decode b_R_segment 117 = .ok (.getfield 19, 3) := by decide +kernel
theorem d_R_segment_120 : decode b_R_segment 120 = .ok (.iload_n 3, 1) := by decide +kernel
theorem d_R_segment_121 : decode b_R_segment 121 = .ok (.iaload, 1) := by decide +kernel
theorem d_R_segment_122 : decode b_R_segment 122 = .ok (.invokevirtual 101, 3) := by decide +kernel
theorem d_R_segment_125 : decode b_R_segment 125 = .ok (.ifCond .eq 6, 3) := by decide +kernel
theorem d_R_segment_128 : decode b_R_segment 128 = .ok (.bipush (-5), 2) := by decide +kernel
theorem d_R_segment_130 : decode b_R_segment 130 = .ok (.ireturn, 1) := by decide +kernel
theorem d_R_segment_131 : decode b_R_segment 131 = .ok (.iinc 3 1, 3) := by decide +kernel
theorem d_R_segment_134 : decode b_R_segment 134 = .ok (.goto (-35), 3) := by decide +kernel
theorem d_R_segment_137 : decode b_R_segment 137 = .ok (.aload_n 0, 1) := by decide +kernel
theorem d_R_segment_138 : decode b_R_segment 138 = .ok (.getfield 16, 3) := by decide +kernel
theorem d_R_segment_141 : decode b_R_segment 141 = .ok (.aload_n 0, 1) := by decide +kernel
theorem d_R_segment_142 : decode b_R_segment 142 = .ok (.getfield 83, 3) := by decide +kernel
theorem d_R_segment_145 : decode b_R_segment 145 = .ok (.iload_n 1, 1) := by decide +kernel
theorem d_R_segment_146 : decode b_R_segment 146 = .ok (.iastore, 1) := by decide +kernel
theorem d_R_segment_147 : decode b_R_segment 147 = .ok (.aload_n 0, 1) := by decide +kernel
theorem d_R_segment_148 : decode b_R_segment 148 = .ok (.getfield 19, 3) := by decide +kernel
theorem d_R_segment_151 : decode b_R_segment 151 = .ok (.aload_n 0, 1) := by decide +kernel
theorem d_R_segment_152 : decode b_R_segment 152 = .ok (.getfield 83, 3) := by decide +kernel
theorem d_R_segment_155 : decode b_R_segment 155 = .ok (.iload_n 2, 1) := by decide +kernel
theorem d_R_segment_156 : decode b_R_segment 156 = .ok (.iastore, 1) := by decide +kernel
theorem d_R_segment_157 : decode b_R_segment 157 = .ok (.aload_n 0, 1) := by decide +kernel
theorem d_R_segment_158 : decode b_R_segment 158 = .ok (.dup, 1) := by decide +kernel
theorem d_R_segment_159 : decode b_R_segment 159 = .ok (.getfield 83, 3) := by decide +kernel
theorem d_R_segment_162 : decode b_R_segment 162 = .ok (.iconst 1, 1) := by decide +kernel
theorem d_R_segment_163 : decode b_R_segment 163 = .ok (.iadd, 1) := by decide +kernel
theorem d_R_segment_164 : decode b_R_segment 164 = .ok (.putfield 83, 3) := by decide +kernel
theorem d_R_segment_167 : decode b_R_segment 167 = .ok (.aload_n 0, 1) := by decide +kernel
theorem d_R_segment_168 : decode b_R_segment 168 = .ok (.getfield 83, 3) := by decide +kernel
theorem d_R_segment_171 : decode b_R_segment 171 = .ok (.iconst 1, 1) := by decide +kernel
theorem d_R_segment_172 : decode b_R_segment 172 = .ok (.isub, 1) := by decide +kernel
theorem d_R_segment_173 : decode b_R_segment 173 = .ok (.ireturn, 1) := by decide +kernel
theorem d_R_isPoint_0 : decode b_R_isPoint 0 = .ok (.iload_n 1, 1) := by decide +kernel
theorem d_R_isPoint_1 : decode b_R_isPoint 1 = .ok (.ifCond .lt 15, 3) := by decide +kernel
theorem d_R_isPoint_4 : decode b_R_isPoint 4 = .ok (.iload_n 1, 1) := by decide +kernel
theorem d_R_isPoint_5 : decode b_R_isPoint 5 = .ok (.aload_n 0, 1) := by decide +kernel
theorem d_R_isPoint_6 : decode b_R_isPoint 6 = .ok (.getfield 65, 3) := by decide +kernel
theorem d_R_isPoint_9 : decode b_R_isPoint 9 = .ok (.if_icmp .ge 7, 3) := by decide +kernel
theorem d_R_isPoint_12 : decode b_R_isPoint 12 = .ok (.iconst 1, 1) := by decide +kernel
theorem d_R_isPoint_13 : decode b_R_isPoint 13 = .ok (.goto 4, 3) := by decide +kernel
theorem d_R_isPoint_16 : decode b_R_isPoint 16 = .ok (.iconst 0, 1) := by decide +kernel
theorem d_R_isPoint_17 : decode b_R_isPoint 17 = .ok (.ireturn, 1) := by decide +kernel
theorem d_R_isLine_0 : decode b_R_isLine 0 = .ok (.iconst 0, 1) := by decide +kernel
theorem d_R_isLine_1 : decode b_R_isLine 1 = .ok (.istore_n 3, 1) := by decide +kernel
theorem d_R_isLine_2 : decode b_R_isLine 2 = .ok (.iconst 0, 1) := by decide +kernel
theorem d_R_isLine_3 : decode b_R_isLine 3 = .ok (.istore 4, 2) := by decide +kernel
theorem d_R_isLine_5 : decode b_R_isLine 5 = .ok (.iload 4, 2) := by decide +kernel
theorem d_R_isLine_7 : decode b_R_isLine 7 = .ok (.aload_n 0, 1) := by decide +kernel
theorem d_R_isLine_8 : decode b_R_isLine 8 = .ok (.getfield 83, 3) := by decide +kernel
theorem d_R_isLine_11 : decode b_R_isLine 11 = .ok (.if_icmp .ge 63, 3) := by decide +kernel
theorem d_R_isLine_14 : decode b_R_isLine 14 = .ok (.iload_n 3, 1) := by decide +kernel
theorem d_R_isLine_15 : decode b_R_isLine 15 = .ok (.ifCond .ne 47, 3) := by decide +kernel
theorem d_R_isLine_18 : decode b_R_isLine 18 = .ok (.aload_n 0, 1) := by decide +kernel
theorem d_R_isLine_19 : decode b_R_isLine 19 = .ok (.getfield 16, 3) := by decide +kernel
theorem d_R_isLine_22 : decode b_R_isLine 22 = .ok (.iload 4, 2) := by decide +kernel
theorem d_R_isLine_24 : decode b_R_isLine 24 = .ok (.iaload, 1) := by decide +kernel
theorem d_R_isLine_25 : decode b_R_isLine 25 = .ok (.iload_n 1, 1) := by decide +kernel
theorem d_R_isLine_26 : decode b_R_isLine 26 = .ok (.if_icmp .ne 14, 3) := by decide +kernel
theorem d_R_isLine_29 : decode b_R_isLine 29 = .ok (.aload_n 0, 1) := by decide +kernel
theorem d_R_isLine_30 : decode b_R_isLine 30 = .ok (.getfield 19, 3) := by decide +kernel
theorem d_R_isLine_33 : decode b_R_isLine 33 = .ok (.iload 4, 2) := by decide +kernel
theorem d_R_isLine_35 : decode b_R_isLine 35 = .ok (.iaload, 1) := by decide +kernel
theorem d_R_isLine_36 : decode b_R_isLine 36 = .ok (.iload_n 2, 1) := by decide +kernel
theorem d_R_isLine_37 : decode b_R_isLine 37 = .ok (.if_icmp .eq 25, 3) := by decide +kernel
theorem d_R_isLine_40 : decode b_R_isLine 40 = .ok (.aload_n 0, 1) := by decide +kernel
theorem d_R_isLine_41 : decode b_R_isLine 41 = .ok (.getfield 16, 3) := by decide +kernel
theorem d_R_isLine_44 : decode b_R_isLine 44 = .ok (.iload 4, 2) := by decide +kernel
theorem d_R_isLine_46 : decode b_R_isLine 46 = .ok (.iaload, 1) := by decide +kernel
theorem d_R_isLine_47 : decode b_R_isLine 47 = .ok (.iload_n 2, 1) := by decide +kernel
theorem d_R_isLine_48 : decode b_R_isLine 48 = .ok (.if_icmp .ne 18, 3) := by decide +kernel
theorem d_R_isLine_51 : decode b_R_isLine 51 = .ok (.aload_n 0, 1) := by decide +kernel
theorem d_R_isLine_52 : decode b_R_isLine 52 = .ok (.getfield 19, 3) := by decide +kernel
theorem d_R_isLine_55 : decode b_R_isLine 55 = .ok (.iload 4, 2) := by decide +kernel
theorem d_R_isLine_57 : decode b_R_isLine 57 = .ok (.iaload, 1) := by decide +kernel
theorem d_R_isLine_58 : decode b_R_isLine 58 = .ok (.iload_n 1, 1) := by decide +kernel
theorem d_R_isLine_59 : decode b_R_isLine 59 = .ok (.if_icmp .ne 7, 3) := by decide +kernel
theorem d_R_isLine_62 : decode b_R_isLine 62 = .ok (.iconst 1, 1) := by decide +kernel
theorem d_R_isLine_63 : decode b_R_isLine 63 = .ok (.goto 4, 3) := by decide +kernel
theorem d_R_isLine_66 : decode b_R_isLine 66 = .ok (.iconst 0, 1) := by decide +kernel
theorem d_R_isLine_67 : decode b_R_isLine 67 = .ok (.istore_n 3, 1) := by decide +kernel
theorem d_R_isLine_68 : decode b_R_isLine 68 = .ok (.iinc 4 1, 3) := by decide +kernel
theorem d_R_isLine_71 : decode b_R_isLine 71 = .ok (.goto (-66), 3) := by decide +kernel
theorem d_R_isLine_74 : decode b_R_isLine 74 = .ok (.iload_n 3, 1) := by decide +kernel
theorem d_R_isLine_75 : decode b_R_isLine 75 = .ok (.ireturn, 1) := by decide +kernel
theorem d_R_crosses_0 : decode b_R_crosses 0 = .ok (.aload_n 0, 1) := by decide +kernel
theorem d_R_crosses_1 : decode b_R_crosses 1 = .ok (.iload_n 1, 1) := by decide +kernel
theorem d_R_crosses_2 : decode b_R_crosses 2 = .ok (.iload_n 2, 1) := by decide +kernel
theorem d_R_crosses_3 : decode b_R_crosses 3 = .ok (.iload_n 3, 1) := by decide +kernel
theorem d_R_crosses_4 : decode b_R_crosses 4 = .ok (.invokevirtual 75, 3) := by decide +kernel
theorem d_R_crosses_7 : decode b_R_crosses 7 = .ok (.invokestatic 79, 3) := by decide +kernel
theorem d_R_crosses_10 : decode b_R_crosses 10 = .ok (.aload_n 0, 1) := by decide +kernel
theorem d_R_crosses_11 : decode b_R_crosses 11 = .ok (.iload_n 1, 1) := by decide +kernel
theorem d_R_crosses_12 : decode b_R_crosses 12 = .ok (.iload_n 2, 1) := by decide +kernel
theorem d_R_crosses_13 : decode b_R_crosses 13 = .ok (.iload 4, 2) := by decide +kernel
theorem d_R_crosses_15 : decode b_R_crosses 15 = .ok (.invokevirtual 75, 3) := by decide +kernel
theorem d_R_crosses_18 : decode b_R_crosses 18 = .ok (.invokestatic 79, 3) := by decide +kernel
theorem d_R_crosses_21 : decode b_R_crosses 21 = .ok (.imul, 1) := by decide +kernel
theorem d_R_crosses_22 : decode b_R_crosses 22 = .ok (.ifCond .ge 33, 3) := by decide +kernel
theorem d_R_crosses_25 : decode b_R_crosses 25 = .ok (.aload_n 0, 1) := by decide +kernel
theorem d_R_crosses_26 : decode b_R_crosses 26 = .ok (.iload_n 3, 1) := by decide +kernel
theorem d_R_crosses_27 : decode b_R_crosses 27 = .ok (.iload 4, 2) := by decide +kernel
theorem d_R_crosses_29 : decode b_R_crosses 29 = .ok (.iload_n 1, 1) := by decide +kernel
theorem d_R_crosses_30 : decode b_R_crosses 30 = .ok (.invokevirtual 75, 3) := by decide +kernel
theorem d_R_crosses_33 : decode b_R_crosses 33 = .ok (.invokestatic 79, 3) := by decide +kernel
theorem d_R_crosses_36 : decode b_R_crosses 36 = .ok (.aload_n 0, 1) := by decide +kernel
theorem d_R_crosses_37 : decode b_R_crosses 37 = .ok (.iload_n 3, 1) := by decide +kernel
theorem d_R_crosses_38 : decode b_R_crosses 38 = .ok (.iload 4, 2) := by decide +kernel
theorem d_R_crosses_40 : decode b_R_crosses 40 = .ok (.iload_n 2, 1) := by decide +kernel
theorem d_R_crosses_41 : decode b_R_crosses 41 = .ok (.invokevirtual 75, 3) := by decide +kernel
theorem d_R_crosses_44 : decode b_R_crosses 44 = .ok (.invokestatic 79, 3) := by decide +kernel
theorem d_R_crosses_47 : decode b_R_crosses 47 = .ok (.imul, 1) := by decide +kernel
theorem d_R_crosses_48 : decode b_R_crosses 48 = .ok (.ifCond .ge 7, 3) := by decide +kernel
theorem d_R_crosses_51 : decode b_R_crosses 51 = .ok (.iconst 1, 1) := by decide +kernel
theorem d_R_crosses_52 : decode b_R_crosses 52 = .ok (.goto 4, 3) := by decide +kernel
theorem d_R_crosses_55 : decode b_R_crosses 55 = .ok (.iconst 0, 1) := by decide +kernel
theorem d_R_crosses_56 : decode b_R_crosses 56 = .ok (.ireturn, 1) := by decide +kernel
theorem d_R_of_0 : decode b_R_of 0 = .ok (.aload_n 0, 1) := by decide +kernel
theorem d_R_of_1 : decode b_R_of 1 = .ok (.getfield 7, 3) := by decide +kernel
theorem d_R_of_4 : decode b_R_of 4 = .ok (.iload_n 1, 1) := by decide +kernel
theorem d_R_of_5 : decode b_R_of 5 = .ok (.iaload, 1) := by decide +kernel
theorem d_R_of_6 : decode b_R_of 6 = .ok (.i2l, 1) := by decide +kernel
theorem d_R_of_7 : decode b_R_of 7 = .ok (.aload_n 0, 1) := by decide +kernel
theorem d_R_of_8 : decode b_R_of 8 = .ok (.getfield 13, 3) := by decide +kernel
theorem d_R_of_11 : decode b_R_of 11 = .ok (.iload_n 1, 1) := by decide +kernel
theorem d_R_of_12 : decode b_R_of 12 = .ok (.iaload, 1) := by decide +kernel
theorem d_R_of_13 : decode b_R_of 13 = .ok (.i2l, 1) := by decide +kernel
theorem d_R_of_14 : decode b_R_of 14 = .ok (.aload_n 0, 1) := by decide +kernel
theorem d_R_of_15 : decode b_R_of 15 = .ok (.getfield 7, 3) := by decide +kernel
theorem d_R_of_18 : decode b_R_of 18 = .ok (.iload_n 2, 1) := by decide +kernel
theorem d_R_of_19 : decode b_R_of 19 = .ok (.iaload, 1) := by decide +kernel
theorem d_R_of_20 : decode b_R_of 20 = .ok (.i2l, 1) := by decide +kernel
theorem d_R_of_21 : decode b_R_of 21 = .ok (.aload_n 0, 1) := by decide +kernel
theorem d_R_of_22 : decode b_R_of 22 = .ok (.getfield 13, 3) := by decide +kernel
theorem d_R_of_25 : decode b_R_of 25 = .ok (.iload_n 2, 1) := by decide +kernel
theorem d_R_of_26 : decode b_R_of 26 = .ok (.iaload, 1) := by decide +kernel
theorem d_R_of_27 : decode b_R_of 27 = .ok (.i2l, 1) := by decide +kernel
theorem d_R_of_28 : decode b_R_of 28 = .ok (.aload_n 0, 1) := by decide +kernel
theorem d_R_of_29 : decode b_R_of 29 = .ok (.getfield 7, 3) := by decide +kernel
theorem d_R_of_32 : decode b_R_of 32 = .ok (.iload_n 3, 1) := by decide +kernel
theorem d_R_of_33 : decode b_R_of 33 = .ok (.iaload, 1) := by decide +kernel
theorem d_R_of_34 : decode b_R_of 34 = .ok (.i2l, 1) := by decide +kernel
theorem d_R_of_35 : decode b_R_of 35 = .ok (.aload_n 0, 1) := by decide +kernel
theorem d_R_of_36 : decode b_R_of 36 = .ok (.getfield 13, 3) := by decide +kernel
theorem d_R_of_39 : decode b_R_of 39 = .ok (.iload_n 3, 1) := by decide +kernel
theorem d_R_of_40 : decode b_R_of 40 = .ok (.iaload, 1) := by decide +kernel
theorem d_R_of_41 : decode b_R_of 41 = .ok (.i2l, 1) := by decide +kernel
theorem d_R_of_42 : decode b_R_of 42 = .ok (.invokestatic 51, 3) := by decide +kernel
theorem d_R_of_45 : decode b_R_of 45 = .ok (.lreturn, 1) := by decide +kernel
theorem d_R_sign_0 : decode b_R_sign 0 = .ok (.lload_n 0, 1) := by decide +kernel
theorem d_R_sign_1 : decode b_R_sign 1 = .ok (.lconst 0, 1) := by decide +kernel
theorem d_R_sign_2 : decode b_R_sign 2 = .ok (.lcmp, 1) := by decide +kernel
theorem d_R_sign_3 : decode b_R_sign 3 = .ok (.ifCond .le 7, 3) := by decide +kernel
theorem d_R_sign_6 : decode b_R_sign 6 = .ok (.iconst 1, 1) := by decide +kernel
theorem d_R_sign_7 : decode b_R_sign 7 = .ok (.goto 14, 3) := by decide +kernel
theorem d_R_sign_10 : decode b_R_sign 10 = .ok (.lload_n 0, 1) := by decide +kernel
theorem d_R_sign_11 : decode b_R_sign 11 = .ok (.lconst 0, 1) := by decide +kernel
theorem d_R_sign_12 : decode b_R_sign 12 = .ok (.lcmp, 1) := by decide +kernel
theorem d_R_sign_13 : decode b_R_sign 13 = .ok (.ifCond .ge 7, 3) := by decide +kernel
theorem d_R_sign_16 : decode b_R_sign 16 = .ok (.iconst (-1), 1) := by decide +kernel
theorem d_R_sign_17 : decode b_R_sign 17 = .ok (.goto 4, 3) := by decide +kernel
theorem d_R_sign_20 : decode b_R_sign 20 = .ok (.iconst 0, 1) := by decide +kernel
theorem d_R_sign_21 : decode b_R_sign 21 = .ok (.ireturn, 1) := by decide +kernel
theorem d_R_hole_0 : decode b_R_hole 0 = .ok (.iload_n 1, 1) := by decide +kernel
theorem d_R_hole_1 : decode b_R_hole 1 = .ok (.iload_n 2, 1) := by decide +kernel
theorem d_R_hole_2 : decode b_R_hole 2 = .ok (.invokestatic 86, 3) := by decide +kernel
theorem d_R_hole_5 : decode b_R_hole 5 = .ok (.ifCond .eq 6, 3) := by decide +kernel
theorem d_R_hole_8 : decode b_R_hole 8 = .ok (.bipush (-2), 2) := by decide +kernel
theorem d_R_hole_10 : decode b_R_hole 10 = .ok (.ireturn, 1) := by decide +kernel
theorem d_R_hole_11 : decode b_R_hole 11 = .ok (.aload_n 0, 1) := by decide +kernel
theorem d_R_hole_12 : decode b_R_hole 12 = .ok (.getfield 105, 3) := by decide +kernel
theorem d_R_hole_15 : decode b_R_hole 15 = .ok (.iconst 3, 1) := by decide +kernel
theorem d_R_hole_16 : decode b_R_hole 16 = .ok (.if_icmp .ne 6, 3) := by decide +kernel
theorem d_R_hole_19 : decode b_R_hole 19 = .ok (.bipush (-3), 2) := by decide +kernel
theorem d_R_hole_21 : decode b_R_hole 21 = .ok (.ireturn, 1) := by decide +kernel
theorem d_R_hole_22 : decode b_R_hole 22 = .ok (.aload_n 0, 1) := by decide +kernel
theorem d_R_hole_23 : decode b_R_hole 23 = .ok (.getfield 22, 3) := by decide +kernel
theorem d_R_hole_26 : decode b_R_hole 26 = .ok (.aload_n 0, 1) := by decide +kernel
theorem d_R_hole_27 : decode b_R_hole 27 = .ok (.getfield 105, 3) := by decide +kernel
theorem d_R_hole_30 : decode b_R_hole 30 = .ok (.iload_n 1, 1) := by decide +kernel
theorem d_R_hole_31 : decode b_R_hole 31 = .ok (.iastore, 1) := by decide +kernel
theorem d_R_hole_32 : decode b_R_hole 32 = .ok (.aload_n 0, 1) := by decide +kernel
theorem d_R_hole_33 : decode b_R_hole 33 = .ok (.getfield 25, 3) := by decide +kernel
theorem d_R_hole_36 : decode b_R_hole 36 = .ok (.aload_n 0, 1) := by decide +kernel
theorem d_R_hole_37 : decode b_R_hole 37 = .ok (.getfield 105, 3) := by decide +kernel
theorem d_R_hole_40 : decode b_R_hole 40 = .ok (.iload_n 2, 1) := by decide +kernel
theorem d_R_hole_41 : decode b_R_hole 41 = .ok (.iastore, 1) := by decide +kernel
theorem d_R_hole_42 : decode b_R_hole 42 = .ok (.aload_n 0, 1) := by decide +kernel
theorem d_R_hole_43 : decode b_R_hole 43 = .ok (.dup, 1) := by decide +kernel
theorem d_R_hole_44 : decode b_R_hole 44 = .ok (.getfield 105, 3) := by decide +kernel
theorem d_R_hole_47 : decode b_R_hole 47 = .ok (.iconst 1, 1) := by decide +kernel
theorem d_R_hole_48 : decode b_R_hole 48 = .ok (.iadd, 1) := by decide +kernel
theorem d_R_hole_49 : decode b_R_hole 49 = .ok (.putfield 105, 3) := by decide +kernel
theorem d_R_hole_52 : decode b_R_hole 52 = .ok (.aload_n 0, 1) := by decide +kernel
theorem d_R_hole_53 : decode b_R_hole 53 = .ok (.getfield 105, 3) := by decide +kernel
theorem d_R_hole_56 : decode b_R_hole 56 = .ok (.ireturn, 1) := by decide +kernel
theorem d_R_turn_0 : decode b_R_turn 0 = .ok (.aload_n 0, 1) := by decide +kernel
theorem d_R_turn_1 : decode b_R_turn 1 = .ok (.iload_n 1, 1) := by decide +kernel
theorem d_R_turn_2 : decode b_R_turn 2 = .ok (.invokevirtual 94, 3) := by decide +kernel
theorem d_R_turn_5 : decode b_R_turn 5 = .ok (.ifCond .eq 32, 3) := by decide +kernel
theorem d_R_turn_8 : decode b_R_turn 8 = .ok (.aload_n 0, 1) := by decide +kernel
theorem d_R_turn_9 : decode b_R_turn 9 = .ok (.iload_n 2, 1) := by decide +kernel
theorem d_R_turn_10 : decode b_R_turn 10 = .ok (.invokevirtual 94, 3) := by decide +kernel
theorem d_R_turn_13 : decode b_R_turn 13 = .ok (.ifCond .eq 24, 3) := by decide +kernel
theorem d_R_turn_16 : decode b_R_turn 16 = .ok (.aload_n 0, 1) := by decide +kernel
theorem d_R_turn_17 : decode b_R_turn 17 = .ok (.iload_n 3, 1) := by decide +kernel
theorem d_R_turn_18 : decode b_R_turn 18 = .ok (.invokevirtual 94, 3) := by decide +kernel
theorem d_R_turn_21 : decode b_R_turn 21 = .ok (.ifCond .eq 16, 3) := by decide +kernel
theorem d_R_turn_24 : decode b_R_turn 24 = .ok (.aload_n 0, 1) := by decide +kernel
theorem d_R_turn_25 : decode b_R_turn 25 = .ok (.iload_n 1, 1) := by decide +kernel
theorem d_R_turn_26 : decode b_R_turn 26 = .ok (.iload_n 2, 1) := by decide +kernel
theorem d_R_turn_27 : decode b_R_turn 27 = .ok (.iload_n 3, 1) := by decide +kernel
theorem d_R_turn_28 : decode b_R_turn 28 = .ok (.invokevirtual 75, 3) := by decide +kernel
theorem d_R_turn_31 : decode b_R_turn 31 = .ok (.invokestatic 79, 3) := by decide +kernel
theorem d_R_turn_34 : decode b_R_turn 34 = .ok (.goto 4, 3) := by decide +kernel
theorem d_R_turn_37 : decode b_R_turn 37 = .ok (.iconst 2, 1) := by decide +kernel
theorem d_R_turn_38 : decode b_R_turn 38 = .ok (.ireturn, 1) := by decide +kernel
theorem d_R_inCircle_0 : decode b_R_inCircle 0 = .ok (.aload_n 0, 1) := by decide +kernel
theorem d_R_inCircle_1 : decode b_R_inCircle 1 = .ok (.iload_n 1, 1) := by decide +kernel
theorem d_R_inCircle_2 : decode b_R_inCircle 2 = .ok (.iload_n 2, 1) := by decide +kernel
theorem d_R_inCircle_3 : decode b_R_inCircle 3 = .ok (.iload_n 3, 1) := by decide +kernel
theorem d_R_inCircle_4 : decode b_R_inCircle 4 = .ok (.invokevirtual 108, 3) := by decide +kernel
theorem d_R_inCircle_7 : decode b_R_inCircle 7 = .ok (.istore 5, 2) := by decide +kernel
theorem d_R_inCircle_9 : decode b_R_inCircle 9 = .ok (.iload 5, 2) := by decide +kernel
theorem d_R_inCircle_11 : decode b_R_inCircle 11 = .ok (.iconst 2, 1) := by decide +kernel
theorem d_R_inCircle_12 : decode b_R_inCircle 12 = .ok (.if_icmp .eq 17, 3) := by decide +kernel
theorem d_R_inCircle_15 : decode b_R_inCircle 15 = .ok (.iload 5, 2) := by decide +kernel
theorem d_R_inCircle_17 : decode b_R_inCircle 17 = .ok (.ifCond .eq 12, 3) := by decide +kernel
theorem d_R_inCircle_20 : decode b_R_inCircle 20 = .ok (.aload_n 0, 1) := by decide +kernel
theorem d_R_inCircle_21 : decode b_R_inCircle 21 = .ok (.iload 4, 2) := by decide +kernel
theorem d_R_inCircle_23 : decode b_R_inCircle 23 = .ok (.invokevirtual 94, 3) := by decide +kernel
theorem d_R_inCircle_26 : decode b_R_inCircle 26 = .ok (.ifCond .ne 5, 3) := by decide +kernel
theorem d_R_inCircle_29 : decode b_R_inCircle 29 = .ok (.iconst 2, 1) := by decide +kernel
theorem d_R_inCircle_30 : decode b_R_inCircle 30 = .ok (.ireturn, 1) := by decide +kernel
theorem d_R_inCircle_31 : decode b_R_inCircle 31 = .ok (.iload 5, 2) := by decide +kernel
theorem d_R_inCircle_33 : decode b_R_inCircle 33 = .ok (.ifCond .le 15, 3) := by decide +kernel
theorem d_R_inCircle_36 : decode b_R_inCircle 36 = .ok (.aload_n 0, 1) := by decide +kernel
theorem d_R_inCircle_37 : decode b_R_inCircle 37 = .ok (.iload_n 1, 1) := by decide +kernel
theorem d_R_inCircle_38 : decode b_R_inCircle 38 = .ok (.iload_n 2, 1) := by decide +kernel
theorem d_R_inCircle_39 : decode b_R_inCircle 39 = .ok (.iload_n 3, 1) := by decide +kernel
theorem d_R_inCircle_40 : decode b_R_inCircle 40 = .ok (.iload 4, 2) := by decide +kernel
theorem d_R_inCircle_42 : decode b_R_inCircle 42 = .ok (.invokevirtual 112, 3) := by decide +kernel
theorem d_R_inCircle_45 : decode b_R_inCircle 45 = .ok (.goto 12, 3) := by decide +kernel
theorem d_R_inCircle_48 : decode b_R_inCircle 48 = .ok (.aload_n 0, 1) := by decide +kernel
theorem d_R_inCircle_49 : decode b_R_inCircle 49 = .ok (.iload_n 1, 1) := by decide +kernel
theorem d_R_inCircle_50 : decode b_R_inCircle 50 = .ok (.iload_n 3, 1) := by decide +kernel
theorem d_R_inCircle_51 : decode b_R_inCircle 51 = .ok (.iload_n 2, 1) := by decide +kernel
theorem d_R_inCircle_52 : decode b_R_inCircle 52 = .ok (.iload 4, 2) := by decide +kernel
theorem d_R_inCircle_54 : decode b_R_inCircle 54 = .ok (.invokevirtual 112, 3) := by decide +kernel
theorem d_R_inCircle_57 : decode b_R_inCircle 57 = .ok (.ireturn, 1) := by decide +kernel
theorem d_R_circle_0 : decode b_R_circle 0 = .ok (.aload_n 0, 1) := by decide +kernel
theorem d_R_circle_1 : decode b_R_circle 1 = .ok (.getfield 7, 3) := by decide +kernel
theorem d_R_circle_4 : decode b_R_circle 4 = .ok (.iload_n 1, 1) := by decide +kernel
theorem d_R_circle_5 : decode b_R_circle 5 = .ok (.iaload, 1) := by decide +kernel
theorem d_R_circle_6 : decode b_R_circle 6 = .ok (.aload_n 0, 1) := by decide +kernel
theorem d_R_circle_7 : decode b_R_circle 7 = .ok (.getfield 7, 3) := by decide +kernel
theorem d_R_circle_10 : decode b_R_circle 10 = .ok (.iload 4, 2) := by decide +kernel
theorem d_R_circle_12 : decode b_R_circle 12 = .ok (.iaload, 1) := by decide +kernel
theorem d_R_circle_13 : decode b_R_circle 13 = .ok (.isub, 1) := by decide +kernel
theorem d_R_circle_14 : decode b_R_circle 14 = .ok (.i2l, 1) := by decide +kernel
theorem d_R_circle_15 : decode b_R_circle 15 = .ok (.lstore 5, 2) := by decide +kernel
theorem d_R_circle_17 : decode b_R_circle 17 = .ok (.aload_n 0, 1) := by decide +kernel
theorem d_R_circle_18 : decode b_R_circle 18 = .ok (.getfield 13, 3) := by decide +kernel
theorem d_R_circle_21 : decode b_R_circle 21 = .ok (.iload_n 1, 1) := by decide +kernel
theorem d_R_circle_22 : decode b_R_circle 22 = .ok (.iaload, 1) := by decide +kernel
theorem d_R_circle_23 : decode b_R_circle 23 = .ok (.aload_n 0, 1) := by decide +kernel
theorem d_R_circle_24 : decode b_R_circle 24 = .ok (.getfield 13, 3) := by decide +kernel
theorem d_R_circle_27 : decode b_R_circle 27 = .ok (.iload 4, 2) := by decide +kernel
theorem d_R_circle_29 : decode b_R_circle 29 = .ok (.iaload, 1) := by decide +kernel
theorem d_R_circle_30 : decode b_R_circle 30 = .ok (.isub, 1) := by decide +kernel
theorem d_R_circle_31 : decode b_R_circle 31 = .ok (.i2l, 1) := by decide +kernel
theorem d_R_circle_32 : decode b_R_circle 32 = .ok (.lstore 7, 2) := by decide +kernel
theorem d_R_circle_34 : decode b_R_circle 34 = .ok (.aload_n 0, 1) := by decide +kernel
theorem d_R_circle_35 : decode b_R_circle 35 = .ok (.getfield 7, 3) := by decide +kernel
theorem d_R_circle_38 : decode b_R_circle 38 = .ok (.iload_n 2, 1) := by decide +kernel
theorem d_R_circle_39 : decode b_R_circle 39 = .ok (.iaload, 1) := by decide +kernel
theorem d_R_circle_40 : decode b_R_circle 40 = .ok (.aload_n 0, 1) := by decide +kernel
theorem d_R_circle_41 : decode b_R_circle 41 = .ok (.getfield 7, 3) := by decide +kernel
theorem d_R_circle_44 : decode b_R_circle 44 = .ok (.iload 4, 2) := by decide +kernel
theorem d_R_circle_46 : decode b_R_circle 46 = .ok (.iaload, 1) := by decide +kernel
theorem d_R_circle_47 : decode b_R_circle 47 = .ok (.isub, 1) := by decide +kernel
theorem d_R_circle_48 : decode b_R_circle 48 = .ok (.i2l, 1) := by decide +kernel
theorem d_R_circle_49 : decode b_R_circle 49 = .ok (.lstore 9, 2) := by decide +kernel
theorem d_R_circle_51 : decode b_R_circle 51 = .ok (.aload_n 0, 1) := by decide +kernel
theorem d_R_circle_52 : decode b_R_circle 52 = .ok (.getfield 13, 3) := by decide +kernel
theorem d_R_circle_55 : decode b_R_circle 55 = .ok (.iload_n 2, 1) := by decide +kernel
theorem d_R_circle_56 : decode b_R_circle 56 = .ok (.iaload, 1) := by decide +kernel
theorem d_R_circle_57 : decode b_R_circle 57 = .ok (.aload_n 0, 1) := by decide +kernel
theorem d_R_circle_58 : decode b_R_circle 58 = .ok (.getfield 13, 3) := by decide +kernel
theorem d_R_circle_61 : decode b_R_circle 61 = .ok (.iload 4, 2) := by decide +kernel
theorem d_R_circle_63 : decode b_R_circle 63 = .ok (.iaload, 1) := by decide +kernel
theorem d_R_circle_64 : decode b_R_circle 64 = .ok (.isub, 1) := by decide +kernel
theorem d_R_circle_65 : decode b_R_circle 65 = .ok (.i2l, 1) := by decide +kernel
theorem d_R_circle_66 : decode b_R_circle 66 = .ok (.lstore 11, 2) := by decide +kernel
theorem d_R_circle_68 : decode b_R_circle 68 = .ok (.aload_n 0, 1) := by decide +kernel
theorem d_R_circle_69 : decode b_R_circle 69 = .ok (.getfield 7, 3) := by decide +kernel
theorem d_R_circle_72 : decode b_R_circle 72 = .ok (.iload_n 3, 1) := by decide +kernel
theorem d_R_circle_73 : decode b_R_circle 73 = .ok (.iaload, 1) := by decide +kernel
theorem d_R_circle_74 : decode b_R_circle 74 = .ok (.aload_n 0, 1) := by decide +kernel
theorem d_R_circle_75 : decode b_R_circle 75 = .ok (.getfield 7, 3) := by decide +kernel
theorem d_R_circle_78 : decode b_R_circle 78 = .ok (.iload 4, 2) := by decide +kernel
theorem d_R_circle_80 : decode b_R_circle 80 = .ok (.iaload, 1) := by decide +kernel
theorem d_R_circle_81 : decode b_R_circle 81 = .ok (.isub, 1) := by decide +kernel
theorem d_R_circle_82 : decode b_R_circle 82 = .ok (.i2l, 1) := by decide +kernel
theorem d_R_circle_83 : decode b_R_circle 83 = .ok (.lstore 13, 2) := by decide +kernel
theorem d_R_circle_85 : decode b_R_circle 85 = .ok (.aload_n 0, 1) := by decide +kernel
theorem d_R_circle_86 : decode b_R_circle 86 = .ok (.getfield 13, 3) := by decide +kernel
theorem d_R_circle_89 : decode b_R_circle 89 = .ok (.iload_n 3, 1) := by decide +kernel
theorem d_R_circle_90 : decode b_R_circle 90 = .ok (.iaload, 1) := by decide +kernel
theorem d_R_circle_91 : decode b_R_circle 91 = .ok (.aload_n 0, 1) := by decide +kernel
theorem d_R_circle_92 : decode b_R_circle 92 = .ok (.getfield 13, 3) := by decide +kernel
theorem d_R_circle_95 : decode b_R_circle 95 = .ok (.iload 4, 2) := by decide +kernel
theorem d_R_circle_97 : decode b_R_circle 97 = .ok (.iaload, 1) := by decide +kernel
theorem d_R_circle_98 : decode b_R_circle 98 = .ok (.isub, 1) := by decide +kernel
theorem d_R_circle_99 : decode b_R_circle 99 = .ok (.i2l, 1) := by decide +kernel
theorem d_R_circle_100 : decode b_R_circle 100 = .ok (.lstore 15, 2) := by decide +kernel
theorem d_R_circle_102 : decode b_R_circle 102 = .ok (.iconst 0, 1) := by decide +kernel
theorem d_R_circle_103 : decode b_R_circle 103 = .ok (.istore 17, 2) := by decide +kernel
theorem d_R_circle_105 : decode b_R_circle 105 = .ok (.iload 17, 2) := by decide +kernel
theorem d_R_circle_107 : decode b_R_circle 107 = .ok (.iconst 5, 1) := by decide +kernel
theorem d_R_circle_108 : decode b_R_circle 108 = .ok (.if_icmp .ge 17, 3) := by decide +kernel
theorem d_R_circle_111 : decode b_R_circle 111 = .ok (.aload_n 0, 1) := by decide +kernel
theorem d_R_circle_112 : decode b_R_circle 112 = .ok (.getfield 47, 3) := by decide +kernel
theorem d_R_circle_115 : decode b_R_circle 115 = .ok (.iload 17, 2) := by decide +kernel
theorem d_R_circle_117 : decode b_R_circle 117 = .ok (.lconst 0, 1) := by decide +kernel
theorem d_R_circle_118 : decode b_R_circle 118 = .ok (.lastore, 1) := by decide +kernel
theorem d_R_circle_119 : decode b_R_circle 119 = .ok (.iinc 17 1, 3) := by decide +kernel
theorem d_R_circle_122 : decode b_R_circle 122 = .ok (.goto (-17), 3) := by decide +kernel
theorem d_R_circle_125 : decode b_R_circle 125 = .ok (.aload_n 0, 1) := by decide +kernel
theorem d_R_circle_126 : decode b_R_circle 126 = .ok (.lload 5, 2) := by decide +kernel
theorem d_R_circle_128 : decode b_R_circle 128 = .ok (.lload 5, 2) := by decide +kernel
theorem d_R_circle_130 : decode b_R_circle 130 = .ok (.lmul, 1) := by decide +kernel
theorem d_R_circle_131 : decode b_R_circle 131 = .ok (.lload 7, 2) := by decide +kernel
theorem d_R_circle_133 : decode b_R_circle 133 = .ok (.lload 7, 2) := by decide +kernel
theorem d_R_circle_135 : decode b_R_circle 135 = .ok (.lmul, 1) := by decide +kernel
theorem d_R_circle_136 : decode b_R_circle 136 = .ok (.ladd, 1) := by decide +kernel
theorem d_R_circle_137 : decode b_R_circle 137 = .ok (.lload 9, 2) := by decide +kernel
theorem d_R_circle_139 : decode b_R_circle 139 = .ok (.lload 15, 2) := by decide +kernel
theorem d_R_circle_141 : decode b_R_circle 141 = .ok (.lmul, 1) := by decide +kernel
theorem d_R_circle_142 : decode b_R_circle 142 = .ok (.lload 11, 2) := by decide +kernel
theorem d_R_circle_144 : decode b_R_circle 144 = .ok (.lload 13, 2) := by decide +kernel
theorem d_R_circle_146 : decode b_R_circle 146 = .ok (.lmul, 1) := by decide +kernel
theorem d_R_circle_147 : decode b_R_circle 147 = .ok (.lsub, 1) := by decide +kernel
theorem d_R_circle_148 : decode b_R_circle 148 = .ok (.invokevirtual 57, 3) := by decide +kernel
theorem d_R_circle_151 : decode b_R_circle 151 = .ok (.aload_n 0, 1) := by decide +kernel
theorem d_R_circle_152 : decode b_R_circle 152 = .ok (.lload 9, 2) := by decide +kernel
theorem d_R_circle_154 : decode b_R_circle 154 = .ok (.lload 9, 2) := by decide +kernel
theorem d_R_circle_156 : decode b_R_circle 156 = .ok (.lmul, 1) := by decide +kernel
theorem d_R_circle_157 : decode b_R_circle 157 = .ok (.lload 11, 2) := by decide +kernel
theorem d_R_circle_159 : decode b_R_circle 159 = .ok (.lload 11, 2) := by decide +kernel
theorem d_R_circle_161 : decode b_R_circle 161 = .ok (.lmul, 1) := by decide +kernel
theorem d_R_circle_162 : decode b_R_circle 162 = .ok (.ladd, 1) := by decide +kernel
theorem d_R_circle_163 : decode b_R_circle 163 = .ok (.lload 13, 2) := by decide +kernel
