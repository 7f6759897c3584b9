theorem d_R_circle_165 : decode b_R_circle 165 = .ok (.lload 7, 2) := by decide +kernel
theorem d_R_circle_167 : decode b_R_circle 167 = .ok (.lmul, 1) := by decide +kernel
theorem d_R_circle_168 : decode b_R_circle 168 = .ok (.lload 15, 2) := by decide +kernel
theorem d_R_circle_170 : decode b_R_circle 170 = .ok (.lload 5, 2) := by decide +kernel
theorem d_R_circle_172 : decode b_R_circle 172 = .ok (.lmul, 1) := by decide +kernel
theorem d_R_circle_173 : decode b_R_circle 173 = .ok (.lsub, 1) := by decide +kernel
theorem d_R_circle_174 : decode b_R_circle 174 = .ok (.invokevirtual 57, 3) := by decide +kernel
theorem d_R_circle_177 : decode b_R_circle 177 = .ok (.aload_n 0, 1) := by decide +kernel
theorem d_R_circle_178 : decode b_R_circle 178 = .ok (.lload 13, 2) := by decide +kernel
theorem d_R_circle_180 : decode b_R_circle 180 = .ok (.lload 13, 2) := by decide +kernel
theorem d_R_circle_182 : decode b_R_circle 182 = .ok (.lmul, 1) := by decide +kernel
theorem d_R_circle_183 : decode b_R_circle 183 = .ok (.lload 15, 2) := by decide +kernel
theorem d_R_circle_185 : decode b_R_circle 185 = .ok (.lload 15, 2) := by decide +kernel
theorem d_R_circle_187 : decode b_R_circle 187 = .ok (.lmul, 1) := by decide +kernel
theorem d_R_circle_188 : decode b_R_circle 188 = .ok (.ladd, 1) := by decide +kernel
theorem d_R_circle_189 : decode b_R_circle 189 = .ok (.lload 5, 2) := by decide +kernel
theorem d_R_circle_191 : decode b_R_circle 191 = .ok (.lload 11, 2) := by decide +kernel
theorem d_R_circle_193 : decode b_R_circle 193 = .ok (.lmul, 1) := by decide +kernel
theorem d_R_circle_194 : decode b_R_circle 194 = .ok (.lload 7, 2) := by decide +kernel
theorem d_R_circle_196 : decode b_R_circle 196 = .ok (.lload 9, 2) := by decide +kernel
theorem d_R_circle_198 : decode b_R_circle 198 = .ok (.lmul, 1) := by decide +kernel
theorem d_R_circle_199 : decode b_R_circle 199 = .ok (.lsub, 1) := by decide +kernel
theorem d_R_circle_200 : decode b_R_circle 200 = .ok (.invokevirtual 57, 3) := by decide +kernel
theorem d_R_circle_203 : decode b_R_circle 203 = .ok (.aload_n 0, 1) := by decide +kernel
theorem d_R_circle_204 : decode b_R_circle 204 = .ok (.invokevirtual 61, 3) := by decide +kernel
theorem d_R_circle_207 : decode b_R_circle 207 = .ok (.ireturn, 1) := by decide +kernel
theorem d_R_addProduct_0 : decode b_R_addProduct 0 = .ok (.iconst 0, 1) := by decide +kernel
theorem d_R_addProduct_1 : decode b_R_addProduct 1 = .ok (.istore 5, 2) := by decide +kernel
theorem d_R_addProduct_3 : decode b_R_addProduct 3 = .ok (.iload 5, 2) := by decide +kernel
theorem d_R_addProduct_5 : decode b_R_addProduct 5 = .ok (.iconst 3, 1) := by decide +kernel
theorem d_R_addProduct_6 : decode b_R_addProduct 6 = .ok (.if_icmp .ge 94, 3) := by decide +kernel
theorem d_R_addProduct_9 : decode b_R_addProduct 9 = .ok (.iload 5, 2) := by decide +kernel
theorem d_R_addProduct_11 : decode b_R_addProduct 11 = .ok (.iconst 2, 1) := by decide +kernel
theorem d_R_addProduct_12 : decode b_R_addProduct 12 = .ok (.if_icmp .ne 10, 3) := by decide +kernel
theorem d_R_addProduct_15 : decode b_R_addProduct 15 = .ok (.lload_n 1, 1) := by decide +kernel
theorem d_R_addProduct_16 : decode b_R_addProduct 16 = .ok (.bipush 30, 2) := by decide +kernel
theorem d_R_addProduct_18 : decode b_R_addProduct 18 = .ok (.lshr, 1) := by decide +kernel
theorem d_R_addProduct_19 : decode b_R_addProduct 19 = .ok (.goto 14, 3) := by decide +kernel
theorem d_R_addProduct_22 : decode b_R_addProduct 22 = .ok (.lload_n 1, 1) := by decide +kernel
theorem d_R_addProduct_23 : decode b_R_addProduct 23 = .ok (.bipush 15, 2) := by decide +kernel
theorem d_R_addProduct_25 : decode b_R_addProduct 25 = .ok (.iload 5, 2) := by decide +kernel
theorem d_R_addProduct_27 : decode b_R_addProduct 27 = .ok (.imul, 1) := by decide +kernel
theorem d_R_addProduct_28 : decode b_R_addProduct 28 = .ok (.lshr, 1) := by decide +kernel
theorem d_R_addProduct_29 : decode b_R_addProduct 29 = .ok (.ldc2_w 55, 3) := by decide +kernel
theorem d_R_addProduct_32 : decode b_R_addProduct 32 = .ok (.land, 1) := by decide +kernel
theorem d_R_addProduct_33 : decode b_R_addProduct 33 = .ok (.lstore 6, 2) := by decide +kernel
theorem d_R_addProduct_35 : decode b_R_addProduct 35 = .ok (.iconst 0, 1) := by decide +kernel
theorem d_R_addProduct_36 : decode b_R_addProduct 36 = .ok (.istore 8, 2) := by decide +kernel
theorem d_R_addProduct_38 : decode b_R_addProduct 38 = .ok (.iload 8, 2) := by decide +kernel
theorem d_R_addProduct_40 : decode b_R_addProduct 40 = .ok (.iconst 3, 1) := by decide +kernel
theorem d_R_addProduct_41 : decode b_R_addProduct 41 = .ok (.if_icmp .ge 53, 3) := by decide +kernel
theorem d_R_addProduct_44 : decode b_R_addProduct 44 = .ok (.iload 8, 2) := by decide +kernel
theorem d_R_addProduct_46 : decode b_R_addProduct 46 = .ok (.iconst 2, 1) := by decide +kernel
theorem d_R_addProduct_47 : decode b_R_addProduct 47 = .ok (.if_icmp .ne 10, 3) := by decide +kernel
theorem d_R_addProduct_50 : decode b_R_addProduct 50 = .ok (.lload_n 3, 1) := by decide +kernel
theorem d_R_addProduct_51 : decode b_R_addProduct 51 = .ok (.bipush 30, 2) := by decide +kernel
theorem d_R_addProduct_53 : decode b_R_addProduct 53 = .ok (.lshr, 1) := by decide +kernel
theorem d_R_addProduct_54 : decode b_R_addProduct 54 = .ok (.goto 14, 3) := by decide +kernel
theorem d_R_addProduct_57 : decode b_R_addProduct 57 = .ok (.lload_n 3, 1) := by decide +kernel
theorem d_R_addProduct_58 : decode b_R_addProduct 58 = .ok (.bipush 15, 2) := by decide +kernel
theorem d_R_addProduct_60 : decode b_R_addProduct 60 = .ok (.iload 8, 2) := by decide +kernel
theorem d_R_addProduct_62 : decode b_R_addProduct 62 = .ok (.imul, 1) := by decide +kernel
theorem d_R_addProduct_63 : decode b_R_addProduct 63 = .ok (.lshr, 1) := by decide +kernel
theorem d_R_addProduct_64 : decode b_R_addProduct 64 = .ok (.ldc2_w 55, 3) := by decide +kernel
theorem d_R_addProduct_67 : decode b_R_addProduct 67 = .ok (.land, 1) := by decide +kernel
theorem d_R_addProduct_68 : decode b_R_addProduct 68 = .ok (.lstore 9, 2) := by decide +kernel
theorem d_R_addProduct_70 : decode b_R_addProduct 70 = .ok (.aload_n 0, 1) := by decide +kernel
theorem d_R_addProduct_71 : decode b_R_addProduct 71 = .ok (.getfield 47, 3) := by decide +kernel
theorem d_R_addProduct_74 : decode b_R_addProduct 74 = .ok (.iload 5, 2) := by decide +kernel
theorem d_R_addProduct_76 : decode b_R_addProduct 76 = .ok (.iload 8, 2) := by decide +kernel
theorem d_R_addProduct_78 : decode b_R_addProduct 78 = .ok (.iadd, 1) := by decide +kernel
theorem d_R_addProduct_79 : decode b_R_addProduct 79 = .ok (.dup2, 1) := by decide +kernel
theorem d_R_addProduct_80 : decode b_R_addProduct 80 = .ok (.laload, 1) := by decide +kernel
theorem d_R_addProduct_81 : decode b_R_addProduct 81 = .ok (.lload 6, 2) := by decide +kernel
theorem d_R_addProduct_83 : decode b_R_addProduct 83 = .ok (.lload 9, 2) := by decide +kernel
theorem d_R_addProduct_85 : decode b_R_addProduct 85 = .ok (.lmul, 1) := by decide +kernel
theorem d_R_addProduct_86 : decode b_R_addProduct 86 = .ok (.ladd, 1) := by decide +kernel
theorem d_R_addProduct_87 : decode b_R_addProduct 87 = .ok (.lastore, 1) := by decide +kernel
theorem d_R_addProduct_88 : decode b_R_addProduct 88 = .ok (.iinc 8 1, 3) := by decide +kernel
theorem d_R_addProduct_91 : decode b_R_addProduct 91 = .ok (.goto (-53), 3) := by decide +kernel
theorem d_R_addProduct_94 : decode b_R_addProduct 94 = .ok (.iinc 5 1, 3) := by decide +kernel
theorem d_R_addProduct_97 : decode b_R_addProduct 97 = .ok (.goto (-94), 3) := by decide +kernel
theorem d_R_addProduct_100 : decode b_R_addProduct 100 = .ok (.return_, 1) := by decide +kernel
theorem d_R_signOfSum_0 : decode b_R_signOfSum 0 = .ok (.iconst 0, 1) := by decide +kernel
theorem d_R_signOfSum_1 : decode b_R_signOfSum 1 = .ok (.istore_n 1, 1) := by decide +kernel
theorem d_R_signOfSum_2 : decode b_R_signOfSum 2 = .ok (.iconst 0, 1) := by decide +kernel
theorem d_R_signOfSum_3 : decode b_R_signOfSum 3 = .ok (.istore_n 2, 1) := by decide +kernel
theorem d_R_signOfSum_4 : decode b_R_signOfSum 4 = .ok (.iload_n 2, 1) := by decide +kernel
theorem d_R_signOfSum_5 : decode b_R_signOfSum 5 = .ok (.iconst 4, 1) := by decide +kernel
theorem d_R_signOfSum_6 : decode b_R_signOfSum 6 = .ok (.if_icmp .ge 54, 3) := by decide +kernel
theorem d_R_signOfSum_9 : decode b_R_signOfSum 9 = .ok (.aload_n 0, 1) := by decide +kernel
theorem d_R_signOfSum_10 : decode b_R_signOfSum 10 = .ok (.getfield 47, 3) := by decide +kernel
theorem d_R_signOfSum_13 : decode b_R_signOfSum 13 = .ok (.iload_n 2, 1) := by decide +kernel
theorem d_R_signOfSum_14 : decode b_R_signOfSum 14 = .ok (.iconst 1, 1) := by decide +kernel
theorem d_R_signOfSum_15 : decode b_R_signOfSum 15 = .ok (.iadd, 1) := by decide +kernel
theorem d_R_signOfSum_16 : decode b_R_signOfSum 16 = .ok (.dup2, 1) := by decide +kernel
theorem d_R_signOfSum_17 : decode b_R_signOfSum 17 = .ok (.laload, 1) := by decide +kernel
theorem d_R_signOfSum_18 : decode b_R_signOfSum 18 = .ok (.aload_n 0, 1) := by decide +kernel
theorem d_R_signOfSum_19 : decode b_R_signOfSum 19 = .ok (.getfield 47, 3) := by decide +kernel
theorem d_R_signOfSum_22 : decode b_R_signOfSum 22 = .ok (.iload_n 2, 1) := by decide +kernel
theorem d_R_signOfSum_23 : decode b_R_signOfSum 23 = .ok (.laload, 1) := by decide +kernel
theorem d_R_signOfSum_24 : decode b_R_signOfSum 24 = .ok (.bipush 15, 2) := by decide +kernel
theorem d_R_signOfSum_26 : decode b_R_signOfSum 26 = .ok (.lshr, 1) := by decide +kernel
theorem d_R_signOfSum_27 : decode b_R_signOfSum 27 = .ok (.ladd, 1) := by decide +kernel
theorem d_R_signOfSum_28 : decode b_R_signOfSum 28 = .ok (.lastore, 1) := by decide +kernel
theorem d_R_signOfSum_29 : decode b_R_signOfSum 29 = .ok (.iload_n 1, 1) := by decide +kernel
theorem d_R_signOfSum_30 : decode b_R_signOfSum 30 = .ok (.ifCond .ne 18, 3) := by decide +kernel
theorem d_R_signOfSum_33 : decode b_R_signOfSum 33 = .ok (.aload_n 0, 1) := by decide +kernel
theorem d_R_signOfSum_34 : decode b_R_signOfSum 34 = .ok (.getfield 47, 3) := by decide +kernel
theorem d_R_signOfSum_37 : decode b_R_signOfSum 37 = .ok (.iload_n 2, 1) := by decide +kernel
theorem d_R_signOfSum_38 : decode b_R_signOfSum 38 = .ok (.laload, 1) := by decide +kernel
theorem d_R_signOfSum_39 : decode b_R_signOfSum 39 = .ok (.ldc2_w 55, 3) := by decide +kernel
theorem d_R_signOfSum_42 : decode b_R_signOfSum 42 = .ok (.land, 1) := by decide +kernel
theorem d_R_signOfSum_43 : decode b_R_signOfSum 43 = .ok (.lconst 0, 1) := by decide +kernel
theorem d_R_signOfSum_44 : decode b_R_signOfSum 44 = .ok (.lcmp, 1) := by decide +kernel
theorem d_R_signOfSum_45 : decode b_R_signOfSum 45 = .ok (.ifCond .eq 7, 3) := by decide +kernel
theorem d_R_signOfSum_48 : decode b_R_signOfSum 48 = .ok (.iconst 1, 1) := by decide +kernel
theorem d_R_signOfSum_49 : decode b_R_signOfSum 49 = .ok (.goto 4, 3) := by decide +kernel
theorem d_R_signOfSum_52 : decode b_R_signOfSum 52 = .ok (.iconst 0, 1) := by decide +kernel
theorem d_R_signOfSum_53 : decode b_R_signOfSum 53 = .ok (.istore_n 1, 1) := by decide +kernel
theorem d_R_signOfSum_54 : decode b_R_signOfSum 54 = .ok (.iinc 2 1, 3) := by decide +kernel
theorem d_R_signOfSum_57 : decode b_R_signOfSum 57 = .ok (.goto (-53), 3) := by decide +kernel
theorem d_R_signOfSum_60 : decode b_R_signOfSum 60 = .ok (.aload_n 0, 1) := by decide +kernel
theorem d_R_signOfSum_61 : decode b_R_signOfSum 61 = .ok (.getfield 47, 3) := by decide +kernel
theorem d_R_signOfSum_64 : decode b_R_signOfSum 64 = .ok (.iconst 4, 1) := by decide +kernel
theorem d_R_signOfSum_65 : decode b_R_signOfSum 65 = .ok (.laload, 1) := by decide +kernel
theorem d_R_signOfSum_66 : decode b_R_signOfSum 66 = .ok (.lconst 0, 1) := by decide +kernel
theorem d_R_signOfSum_67 : decode b_R_signOfSum 67 = .ok (.lcmp, 1) := by decide +kernel
theorem d_R_signOfSum_68 : decode b_R_signOfSum 68 = .ok (.ifCond .ge 7, 3) := by decide +kernel
theorem d_R_signOfSum_71 : decode b_R_signOfSum 71 = .ok (.iconst (-1), 1) := by decide +kernel
theorem d_R_signOfSum_72 : decode b_R_signOfSum 72 = .ok (.goto 23, 3) := by decide +kernel
theorem d_R_signOfSum_75 : decode b_R_signOfSum 75 = .ok (.aload_n 0, 1) := by decide +kernel
theorem d_R_signOfSum_76 : decode b_R_signOfSum 76 = .ok (.getfield 47, 3) := by decide +kernel
theorem d_R_signOfSum_79 : decode b_R_signOfSum 79 = .ok (.iconst 4, 1) := by decide +kernel
theorem d_R_signOfSum_80 : decode b_R_signOfSum 80 = .ok (.laload, 1) := by decide +kernel
theorem d_R_signOfSum_81 : decode b_R_signOfSum 81 = .ok (.lconst 0, 1) := by decide +kernel
theorem d_R_signOfSum_82 : decode b_R_signOfSum 82 = .ok (.lcmp, 1) := by decide +kernel
theorem d_R_signOfSum_83 : decode b_R_signOfSum 83 = .ok (.ifCond .gt 7, 3) := by decide +kernel
theorem d_R_signOfSum_86 : decode b_R_signOfSum 86 = .ok (.iload_n 1, 1) := by decide +kernel
theorem d_R_signOfSum_87 : decode b_R_signOfSum 87 = .ok (.ifCond .eq 7, 3) := by decide +kernel
theorem d_R_signOfSum_90 : decode b_R_signOfSum 90 = .ok (.iconst 1, 1) := by decide +kernel
theorem d_R_signOfSum_91 : decode b_R_signOfSum 91 = .ok (.goto 4, 3) := by decide +kernel
theorem d_R_signOfSum_94 : decode b_R_signOfSum 94 = .ok (.iconst 0, 1) := by decide +kernel
theorem d_R_signOfSum_95 : decode b_R_signOfSum 95 = .ok (.ireturn, 1) := by decide +kernel
theorem d_R_build_0 : decode b_R_build 0 = .ok (.aload_n 0, 1) := by decide +kernel
theorem d_R_build_1 : decode b_R_build 1 = .ok (.invokevirtual 153, 3) := by decide +kernel
theorem d_R_build_4 : decode b_R_build 4 = .ok (.aload_n 0, 1) := by decide +kernel
theorem d_R_build_5 : decode b_R_build 5 = .ok (.iload_n 1, 1) := by decide +kernel
theorem d_R_build_6 : decode b_R_build 6 = .ok (.iload_n 2, 1) := by decide +kernel
theorem d_R_build_7 : decode b_R_build 7 = .ok (.invokevirtual 156, 3) := by decide +kernel
theorem d_R_build_10 : decode b_R_build 10 = .ok (.aload_n 0, 1) := by decide +kernel
theorem d_R_build_11 : decode b_R_build 11 = .ok (.iconst 0, 1) := by decide +kernel
theorem d_R_build_12 : decode b_R_build 12 = .ok (.putfield 160, 3) := by decide +kernel
theorem d_R_build_15 : decode b_R_build 15 = .ok (.iconst 0, 1) := by decide +kernel
theorem d_R_build_16 : decode b_R_build 16 = .ok (.istore_n 3, 1) := by decide +kernel
theorem d_R_build_17 : decode b_R_build 17 = .ok (.iload_n 3, 1) := by decide +kernel
theorem d_R_build_18 : decode b_R_build 18 = .ok (.aload_n 0, 1) := by decide +kernel
theorem d_R_build_19 : decode b_R_build 19 = .ok (.getfield 65, 3) := by decide +kernel
theorem d_R_build_22 : decode b_R_build 22 = .ok (.if_icmp .ge 90, 3) := by decide +kernel
theorem d_R_build_25 : decode b_R_build 25 = .ok (.iconst 0, 1) := by decide +kernel
theorem d_R_build_26 : decode b_R_build 26 = .ok (.istore 4, 2) := by decide +kernel
theorem d_R_build_28 : decode b_R_build 28 = .ok (.iload 4, 2) := by decide +kernel
theorem d_R_build_30 : decode b_R_build 30 = .ok (.aload_n 0, 1) := by decide +kernel
theorem d_R_build_31 : decode b_R_build 31 = .ok (.getfield 65, 3) := by decide +kernel
theorem d_R_build_34 : decode b_R_build 34 = .ok (.if_icmp .ge 72, 3) := by decide +kernel
theorem d_R_build_37 : decode b_R_build 37 = .ok (.aload_n 0, 1) := by decide +kernel
theorem d_R_build_38 : decode b_R_build 38 = .ok (.iload_n 3, 1) := by decide +kernel
theorem d_R_build_39 : decode b_R_build 39 = .ok (.iload 4, 2) := by decide +kernel
theorem d_R_build_41 : decode b_R_build 41 = .ok (.invokevirtual 140, 3) := by decide +kernel
theorem d_R_build_44 : decode b_R_build 44 = .ok (.istore 5, 2) := by decide +kernel
theorem d_R_build_46 : decode b_R_build 46 = .ok (.iload 5, 2) := by decide +kernel
theorem d_R_build_48 : decode b_R_build 48 = .ok (.ifCond .lt 52, 3) := by decide +kernel
theorem d_R_build_51 : decode b_R_build 51 = .ok (.aload_n 0, 1) := by decide +kernel
theorem d_R_build_52 : decode b_R_build 52 = .ok (.getfield 37, 3) := by decide +kernel
theorem d_R_build_55 : decode b_R_build 55 = .ok (.iload 5, 2) := by decide +kernel
theorem d_R_build_57 : decode b_R_build 57 = .ok (.baload, 1) := by decide +kernel
theorem d_R_build_58 : decode b_R_build 58 = .ok (.ifCond .ne 42, 3) := by decide +kernel
theorem d_R_build_61 : decode b_R_build 61 = .ok (.aload_n 0, 1) := by decide +kernel
theorem d_R_build_62 : decode b_R_build 62 = .ok (.getfield 28, 3) := by decide +kernel
theorem d_R_build_65 : decode b_R_build 65 = .ok (.iload 5, 2) := by decide +kernel
theorem d_R_build_67 : decode b_R_build 67 = .ok (.iaload, 1) := by decide +kernel
theorem d_R_build_68 : decode b_R_build 68 = .ok (.aload_n 0, 1) := by decide +kernel
theorem d_R_build_69 : decode b_R_build 69 = .ok (.getfield 31, 3) := by decide +kernel
theorem d_R_build_72 : decode b_R_build 72 = .ok (.iload 5, 2) := by decide +kernel
theorem d_R_build_74 : decode b_R_build 74 = .ok (.iaload, 1) := by decide +kernel
theorem d_R_build_75 : decode b_R_build 75 = .ok (.iadd, 1) := by decide +kernel
theorem d_R_build_76 : decode b_R_build 76 = .ok (.aload_n 0, 1) := by decide +kernel
theorem d_R_build_77 : decode b_R_build 77 = .ok (.getfield 34, 3) := by decide +kernel
theorem d_R_build_80 : decode b_R_build 80 = .ok (.iload 5, 2) := by decide +kernel
theorem d_R_build_82 : decode b_R_build 82 = .ok (.iaload, 1) := by decide +kernel
theorem d_R_build_83 : decode b_R_build 83 = .ok (.iadd, 1) := by decide +kernel
theorem d_R_build_84 : decode b_R_build 84 = .ok (.iload_n 3, 1) := by decide +kernel
theorem d_R_build_85 : decode b_R_build 85 = .ok (.isub, 1) := by decide +kernel
theorem d_R_build_86 : decode b_R_build 86 = .ok (.iload 4, 2) := by decide +kernel
theorem d_R_build_88 : decode b_R_build 88 = .ok (.isub, 1) := by decide +kernel
theorem d_R_build_89 : decode b_R_build 89 = .ok (.istore 6, 2) := by decide +kernel
theorem d_R_build_91 : decode b_R_build 91 = .ok (.aload_n 0, 1) := by decide +kernel
theorem d_R_build_92 : decode b_R_build 92 = .ok (.iload_n 3, 1) := by decide +kernel
theorem d_R_build_93 : decode b_R_build 93 = .ok (.iload 4, 2) := by decide +kernel
theorem d_R_build_95 : decode b_R_build 95 = .ok (.iload 6, 2) := by decide +kernel
theorem d_R_build_97 : decode b_R_build 97 = .ok (.invokevirtual 163, 3) := by decide +kernel
theorem d_R_build_100 : decode b_R_build 100 = .ok (.iinc 4 1, 3) := by decide +kernel
theorem d_R_build_103 : decode b_R_build 103 = .ok (.goto (-75), 3) := by decide +kernel
theorem d_R_build_106 : decode b_R_build 106 = .ok (.iinc 3 1, 3) := by decide +kernel
theorem d_R_build_109 : decode b_R_build 109 = .ok (.goto (-92), 3) := by decide +kernel
theorem d_R_build_112 : decode b_R_build 112 = .ok (.aload_n 0, 1) := by decide +kernel
theorem d_R_build_113 : decode b_R_build 113 = .ok (.getfield 160, 3) := by decide +kernel
theorem d_R_build_116 : decode b_R_build 116 = .ok (.ireturn, 1) := by decide +kernel
theorem d_R_fill_0 : decode b_R_fill 0 = .ok (.aload_n 0, 1) := by decide +kernel
theorem d_R_fill_1 : decode b_R_fill 1 = .ok (.iconst 0, 1) := by decide +kernel
theorem d_R_fill_2 : decode b_R_fill 2 = .ok (.putfield 123, 3) := by decide +kernel
theorem d_R_fill_5 : decode b_R_fill 5 = .ok (.iconst 0, 1) := by decide +kernel
theorem d_R_fill_6 : decode b_R_fill 6 = .ok (.istore_n 1, 1) := by decide +kernel
theorem d_R_fill_7 : decode b_R_fill 7 = .ok (.iload_n 1, 1) := by decide +kernel
theorem d_R_fill_8 : decode b_R_fill 8 = .ok (.aload_n 0, 1) := by decide +kernel
theorem d_R_fill_9 : decode b_R_fill 9 = .ok (.getfield 65, 3) := by decide +kernel
theorem d_R_fill_12 : decode b_R_fill 12 = .ok (.if_icmp .ge 54, 3) := by decide +kernel
theorem d_R_fill_15 : decode b_R_fill 15 = .ok (.aload_n 0, 1) := by decide +kernel
theorem d_R_fill_16 : decode b_R_fill 16 = .ok (.getfield 123, 3) := by decide +kernel
theorem d_R_fill_19 : decode b_R_fill 19 = .ok (.ifCond .ne 47, 3) := by decide +kernel
theorem d_R_fill_22 : decode b_R_fill 22 = .ok (.iconst 0, 1) := by decide +kernel
theorem d_R_fill_23 : decode b_R_fill 23 = .ok (.istore_n 2, 1) := by decide +kernel
theorem d_R_fill_24 : decode b_R_fill 24 = .ok (.iload_n 2, 1) := by decide +kernel
theorem d_R_fill_25 : decode b_R_fill 25 = .ok (.aload_n 0, 1) := by decide +kernel
theorem d_R_fill_26 : decode b_R_fill 26 = .ok (.getfield 65, 3) := by decide +kernel
theorem d_R_fill_29 : decode b_R_fill 29 = .ok (.if_icmp .ge 31, 3) := by decide +kernel
theorem d_R_fill_32 : decode b_R_fill 32 = .ok (.aload_n 0, 1) := by decide +kernel
theorem d_R_fill_33 : decode b_R_fill 33 = .ok (.getfield 123, 3) := by decide +kernel
theorem d_R_fill_36 : decode b_R_fill 36 = .ok (.ifCond .ne 24, 3) := by decide +kernel
theorem d_R_fill_39 : decode b_R_fill 39 = .ok (.aload_n 0, 1) := by decide +kernel
theorem d_R_fill_40 : decode b_R_fill 40 = .ok (.iload_n 1, 1) := by decide +kernel
theorem d_R_fill_41 : decode b_R_fill 41 = .ok (.iload_n 2, 1) := by decide +kernel
theorem d_R_fill_42 : decode b_R_fill 42 = .ok (.invokevirtual 133, 3) := by decide +kernel
theorem d_R_fill_45 : decode b_R_fill 45 = .ok (.ifCond .eq 9, 3) := by decide +kernel
theorem d_R_fill_48 : decode b_R_fill 48 = .ok (.aload_n 0, 1) := by decide +kernel
theorem d_R_fill_49 : decode b_R_fill 49 = .ok (.iload_n 1, 1) := by decide +kernel
theorem d_R_fill_50 : decode b_R_fill 50 = .ok (.iload_n 2, 1) := by decide +kernel
theorem d_R_fill_51 : decode b_R_fill 51 = .ok (.invokevirtual 136, 3) := by decide +kernel
theorem d_R_fill_54 : decode b_R_fill 54 = .ok (.iinc 2 1, 3) := by decide +kernel
theorem d_R_fill_57 : decode b_R_fill 57 = .ok (.goto (-33), 3) := by decide +kernel
theorem d_R_fill_60 : decode b_R_fill 60 = .ok (.iinc 1 1, 3) := by decide +kernel
theorem d_R_fill_63 : decode b_R_fill 63 = .ok (.goto (-56), 3) := by decide +kernel
theorem d_R_fill_66 : decode b_R_fill 66 = .ok (.iconst 0, 1) := by decide +kernel
theorem d_R_fill_67 : decode b_R_fill 67 = .ok (.istore_n 1, 1) := by decide +kernel
theorem d_R_fill_68 : decode b_R_fill 68 = .ok (.iload_n 1, 1) := by decide +kernel
theorem d_R_fill_69 : decode b_R_fill 69 = .ok (.aload_n 0, 1) := by decide +kernel
theorem d_R_fill_70 : decode b_R_fill 70 = .ok (.getfield 123, 3) := by decide +kernel
theorem d_R_fill_73 : decode b_R_fill 73 = .ok (.if_icmp .ge 57, 3) := by decide +kernel
theorem d_R_fill_76 : decode b_R_fill 76 = .ok (.aload_n 0, 1) := by decide +kernel
theorem d_R_fill_77 : decode b_R_fill 77 = .ok (.aload_n 0, 1) := by decide +kernel
theorem d_R_fill_78 : decode b_R_fill 78 = .ok (.getfield 31, 3) := by decide +kernel
theorem d_R_fill_81 : decode b_R_fill 81 = .ok (.iload_n 1, 1) := by decide +kernel
theorem d_R_fill_82 : decode b_R_fill 82 = .ok (.iaload, 1) := by decide +kernel
theorem d_R_fill_83 : decode b_R_fill 83 = .ok (.aload_n 0, 1) := by decide +kernel
theorem d_R_fill_84 : decode b_R_fill 84 = .ok (.getfield 28, 3) := by decide +kernel
theorem d_R_fill_87 : decode b_R_fill 87 = .ok (.iload_n 1, 1) := by decide +kernel
theorem d_R_fill_88 : decode b_R_fill 88 = .ok (.iaload, 1) := by decide +kernel
theorem d_R_fill_89 : decode b_R_fill 89 = .ok (.invokevirtual 136, 3) := by decide +kernel
theorem d_R_fill_92 : decode b_R_fill 92 = .ok (.aload_n 0, 1) := by decide +kernel
theorem d_R_fill_93 : decode b_R_fill 93 = .ok (.aload_n 0, 1) := by decide +kernel
theorem d_R_fill_94 : decode b_R_fill 94 = .ok (.getfield 34, 3) := by decide +kernel
theorem d_R_fill_97 : decode b_R_fill 97 = .ok (.iload_n 1, 1) := by decide +kernel
theorem d_R_fill_98 : decode b_R_fill 98 = .ok (.iaload, 1) := by decide +kernel
theorem d_R_fill_99 : decode b_R_fill 99 = .ok (.aload_n 0, 1) := by decide +kernel
theorem d_R_fill_100 : decode b_R_fill 100 = .ok (.getfield 31, 3) := by decide +kernel
theorem d_R_fill_103 : decode b_R_fill 103 = .ok (.iload_n 1, 1) := by decide +kernel
theorem d_R_fill_104 : decode b_R_fill 104 = .ok (.iaload, 1) := by decide +kernel
theorem d_R_fill_105 : decode b_R_fill 105 = .ok (.invokevirtual 136, 3) := by decide +kernel
theorem d_R_fill_108 : decode b_R_fill 108 = .ok (.aload_n 0, 1) := by decide +kernel
theorem d_R_fill_109 : decode b_R_fill 109 = .ok (.aload_n 0, 1) := by decide +kernel
theorem d_R_fill_110 : decode b_R_fill 110 = .ok (.getfield 28, 3) := by decide +kernel
theorem d_R_fill_113 : decode b_R_fill 113 = .ok (.iload_n 1, 1) := by decide +kernel
theorem d_R_fill_114 : decode b_R_fill 114 = .ok (.iaload, 1) := by decide +kernel
theorem d_R_fill_115 : decode b_R_fill 115 = .ok (.aload_n 0, 1) := by decide +kernel
theorem d_R_fill_116 : decode b_R_fill 116 = .ok (.getfield 34, 3) := by decide +kernel
theorem d_R_fill_119 : decode b_R_fill 119 = .ok (.iload_n 1, 1) := by decide +kernel
theorem d_R_fill_120 : decode b_R_fill 120 = .ok (.iaload, 1) := by decide +kernel
theorem d_R_fill_121 : decode b_R_fill 121 = .ok (.invokevirtual 136, 3) := by decide +kernel
theorem d_R_fill_124 : decode b_R_fill 124 = .ok (.iinc 1 1, 3) := by decide +kernel
theorem d_R_fill_127 : decode b_R_fill 127 = .ok (.goto (-59), 3) := by decide +kernel
theorem d_R_fill_130 : decode b_R_fill 130 = .ok (.return_, 1) := by decide +kernel
theorem d_R_onHull_0 : decode b_R_onHull 0 = .ok (.iconst 0, 1) := by decide +kernel
theorem d_R_onHull_1 : decode b_R_onHull 1 = .ok (.istore_n 3, 1) := by decide +kernel
theorem d_R_onHull_2 : decode b_R_onHull 2 = .ok (.iconst 0, 1) := by decide +kernel
theorem d_R_onHull_3 : decode b_R_onHull 3 = .ok (.istore 4, 2) := by decide +kernel
theorem d_R_onHull_5 : decode b_R_onHull 5 = .ok (.iload 4, 2) := by decide +kernel
theorem d_R_onHull_7 : decode b_R_onHull 7 = .ok (.aload_n 0, 1) := by decide +kernel
theorem d_R_onHull_8 : decode b_R_onHull 8 = .ok (.getfield 65, 3) := by decide +kernel
theorem d_R_onHull_11 : decode b_R_onHull 11 = .ok (.if_icmp .ge 94, 3) := by decide +kernel
theorem d_R_onHull_14 : decode b_R_onHull 14 = .ok (.aload_n 0, 1) := by decide +kernel
theorem d_R_onHull_15 : decode b_R_onHull 15 = .ok (.iload_n 1, 1) := by decide +kernel
theorem d_R_onHull_16 : decode b_R_onHull 16 = .ok (.iload_n 2, 1) := by decide +kernel
theorem d_R_onHull_17 : decode b_R_onHull 17 = .ok (.iload 4, 2) := by decide +kernel
theorem d_R_onHull_19 : decode b_R_onHull 19 = .ok (.invokevirtual 75, 3) := by decide +kernel
theorem d_R_onHull_22 : decode b_R_onHull 22 = .ok (.lstore 5, 2) := by decide +kernel
theorem d_R_onHull_24 : decode b_R_onHull 24 = .ok (.iload 4, 2) := by decide +kernel
theorem d_R_onHull_26 : decode b_R_onHull 26 = .ok (.iload_n 1, 1) := by decide +kernel
theorem d_R_onHull_27 : decode b_R_onHull 27 = .ok (.if_icmp .eq 38, 3) := by decide +kernel
theorem d_R_onHull_30 : decode b_R_onHull 30 = .ok (.iload 4, 2) := by decide +kernel
theorem d_R_onHull_32 : decode b_R_onHull 32 = .ok (.iload_n 2, 1) := by decide +kernel
theorem d_R_onHull_33 : decode b_R_onHull 33 = .ok (.if_icmp .eq 32, 3) := by decide +kernel
theorem d_R_onHull_36 : decode b_R_onHull 36 = .ok (.aload_n 0, 1) := by decide +kernel
theorem d_R_onHull_37 : decode b_R_onHull 37 = .ok (.iload_n 1, 1) := by decide +kernel
theorem d_R_onHull_38 : decode b_R_onHull 38 = .ok (.iload_n 2, 1) := by decide +kernel
theorem d_R_onHull_39 : decode b_R_onHull 39 = .ok (.aload_n 0, 1) := by decide +kernel
theorem d_R_onHull_40 : decode b_R_onHull 40 = .ok (.getfield 7, 3) := by decide +kernel
theorem d_R_onHull_43 : decode b_R_onHull 43 = .ok (.iload 4, 2) := by decide +kernel
theorem d_R_onHull_45 : decode b_R_onHull 45 = .ok (.iaload, 1) := by decide +kernel
theorem d_R_onHull_46 : decode b_R_onHull 46 = .ok (.i2l, 1) := by decide +kernel
theorem d_R_onHull_47 : decode b_R_onHull 47 = .ok (.aload_n 0, 1) := by decide +kernel
theorem d_R_onHull_48 : decode b_R_onHull 48 = .ok (.getfield 13, 3) := by decide +kernel
theorem d_R_onHull_51 : decode b_R_onHull 51 = .ok (.iload 4, 2) := by decide +kernel
theorem d_R_onHull_53 : decode b_R_onHull 53 = .ok (.iaload, 1) := by decide +kernel
theorem d_R_onHull_54 : decode b_R_onHull 54 = .ok (.i2l, 1) := by decide +kernel
theorem d_R_onHull_55 : decode b_R_onHull 55 = .ok (.invokevirtual 90, 3) := by decide +kernel
theorem d_R_onHull_58 : decode b_R_onHull 58 = .ok (.ifCond .eq 7, 3) := by decide +kernel
theorem d_R_onHull_61 : decode b_R_onHull 61 = .ok (.iconst 1, 1) := by decide +kernel
theorem d_R_onHull_62 : decode b_R_onHull 62 = .ok (.goto 4, 3) := by decide +kernel
theorem d_R_onHull_65 : decode b_R_onHull 65 = .ok (.iconst 0, 1) := by decide +kernel
theorem d_R_onHull_66 : decode b_R_onHull 66 = .ok (.istore 7, 2) := by decide +kernel
theorem d_R_onHull_68 : decode b_R_onHull 68 = .ok (.lload 5, 2) := by decide +kernel
theorem d_R_onHull_70 : decode b_R_onHull 70 = .ok (.lconst 0, 1) := by decide +kernel
theorem d_R_onHull_71 : decode b_R_onHull 71 = .ok (.lcmp, 1) := by decide +kernel
theorem d_R_onHull_72 : decode b_R_onHull 72 = .ok (.ifCond .lt 8, 3) := by decide +kernel
theorem d_R_onHull_75 : decode b_R_onHull 75 = .ok (.iload 7, 2) := by decide +kernel
theorem d_R_onHull_77 : decode b_R_onHull 77 = .ok (.ifCond .eq 5, 3) := by decide +kernel
theorem d_R_onHull_80 : decode b_R_onHull 80 = .ok (.iconst 0, 1) := by decide +kernel
theorem d_R_onHull_81 : decode b_R_onHull 81 = .ok (.ireturn, 1) := by decide +kernel
theorem d_R_onHull_82 : decode b_R_onHull 82 = .ok (.iload_n 3, 1) := by decide +kernel
theorem d_R_onHull_83 : decode b_R_onHull 83 = .ok (.ifCond .ne 10, 3) := by decide +kernel
theorem d_R_onHull_86 : decode b_R_onHull 86 = .ok (.lload 5, 2) := by decide +kernel
theorem d_R_onHull_88 : decode b_R_onHull 88 = .ok (.lconst 0, 1) := by decide +kernel
theorem d_R_onHull_89 : decode b_R_onHull 89 = .ok (.lcmp, 1) := by decide +kernel
theorem d_R_onHull_90 : decode b_R_onHull 90 = .ok (.ifCond .le 7, 3) := by decide +kernel
theorem d_R_onHull_93 : decode b_R_onHull 93 = .ok (.iconst 1, 1) := by decide +kernel
theorem d_R_onHull_94 : decode b_R_onHull 94 = .ok (.goto 4, 3) := by decide +kernel
theorem d_R_onHull_97 : decode b_R_onHull 97 = .ok (.iconst 0, 1) := by decide +kernel
theorem d_R_onHull_98 : decode b_R_onHull 98 = .ok (.istore_n 3, 1) := by decide +kernel
theorem d_R_onHull_99 : decode b_R_onHull 99 = .ok (.iinc 4 1, 3) := by decide +kernel
theorem d_R_onHull_102 : decode b_R_onHull 102 = .ok (.goto (-97), 3) := by decide +kernel
theorem d_R_onHull_105 : decode b_R_onHull 105 = .ok (.iload_n 1, 1) := by decide +kernel
theorem d_R_onHull_106 : decode b_R_onHull 106 = .ok (.iload_n 2, 1) := by decide +kernel
theorem d_R_onHull_107 : decode b_R_onHull 107 = .ok (.if_icmp .eq 11, 3) := by decide +kernel
theorem d_R_onHull_110 : decode b_R_onHull 110 = .ok (.iload_n 3, 1) := by decide +kernel
theorem d_R_onHull_111 : decode b_R_onHull 111 = .ok (.ifCond .eq 7, 3) := by decide +kernel
theorem d_R_onHull_114 : decode b_R_onHull 114 = .ok (.iconst 1, 1) := by decide +kernel
theorem d_R_onHull_115 : decode b_R_onHull 115 = .ok (.goto 4, 3) := by decide +kernel
theorem d_R_onHull_118 : decode b_R_onHull 118 = .ok (.iconst 0, 1) := by decide +kernel
theorem d_R_onHull_119 : decode b_R_onHull 119 = .ok (.ireturn, 1) := by decide +kernel
theorem d_R_grow_0 : decode b_R_grow 0 = .ok (.aload_n 0, 1) := by decide +kernel
theorem d_R_grow_1 : decode b_R_grow 1 = .ok (.iload_n 1, 1) := by decide +kernel
theorem d_R_grow_2 : decode b_R_grow 2 = .ok (.iload_n 2, 1) := by decide +kernel
theorem d_R_grow_3 : decode b_R_grow 3 = .ok (.invokevirtual 126, 3) := by decide +kernel
theorem d_R_grow_6 : decode b_R_grow 6 = .ok (.istore_n 3, 1) := by decide +kernel
theorem d_R_grow_7 : decode b_R_grow 7 = .ok (.iload_n 3, 1) := by decide +kernel
theorem d_R_grow_8 : decode b_R_grow 8 = .ok (.ifCond .lt 72, 3) := by decide +kernel
theorem d_R_grow_11 : decode b_R_grow 11 = .ok (.aload_n 0, 1) := by decide +kernel
theorem d_R_grow_12 : decode b_R_grow 12 = .ok (.getfield 123, 3) := by decide +kernel
theorem d_R_grow_15 : decode b_R_grow 15 = .ok (.bipush 24, 2) := by decide +kernel
theorem d_R_grow_17 : decode b_R_grow 17 = .ok (.if_icmp .ge 63, 3) := by decide +kernel
theorem d_R_grow_20 : decode b_R_grow 20 = .ok (.aload_n 0, 1) := by decide +kernel
theorem d_R_grow_21 : decode b_R_grow 21 = .ok (.iload_n 1, 1) := by decide +kernel
theorem d_R_grow_22 : decode b_R_grow 22 = .ok (.iload_n 2, 1) := by decide +kernel
theorem d_R_grow_23 : decode b_R_grow 23 = .ok (.iload_n 3, 1) := by decide +kernel
theorem d_R_grow_24 : decode b_R_grow 24 = .ok (.invokevirtual 130, 3) := by decide +kernel
theorem d_R_grow_27 : decode b_R_grow 27 = .ok (.ifCond .ne 53, 3) := by decide +kernel
theorem d_R_grow_30 : decode b_R_grow 30 = .ok (.aload_n 0, 1) := by decide +kernel
theorem d_R_grow_31 : decode b_R_grow 31 = .ok (.getfield 28, 3) := by decide +kernel
theorem d_R_grow_34 : decode b_R_grow 34 = .ok (.aload_n 0, 1) := by decide +kernel
theorem d_R_grow_35 : decode b_R_grow 35 = .ok (.getfield 123, 3) := by decide +kernel
theorem d_R_grow_38 : decode b_R_grow 38 = .ok (.iload_n 1, 1) := by decide +kernel
theorem d_R_grow_39 : decode b_R_grow 39 = .ok (.iastore, 1) := by decide +kernel
theorem d_R_grow_40 : decode b_R_grow 40 = .ok (.aload_n 0, 1) := by decide +kernel
theorem d_R_grow_41 : decode b_R_grow 41 = .ok (.getfield 31, 3) := by decide +kernel
theorem d_R_grow_44 : decode b_R_grow 44 = .ok (.aload_n 0, 1) := by decide +kernel
theorem d_R_grow_45 : decode b_R_grow 45 = .ok (.getfield 123, 3) := by decide +kernel
theorem d_R_grow_48 : decode b_R_grow 48 = .ok (.iload_n 2, 1) := by decide +kernel
theorem d_R_grow_49 : decode b_R_grow 49 = .ok (.iastore, 1) := by decide +kernel
theorem d_R_grow_50 : decode b_R_grow 50 = .ok (.aload_n 0, 1) := by decide +kernel
theorem d_R_grow_51 : decode b_R_grow 51 = .ok (.getfield 34, 3) := by decide +kernel
theorem d_R_grow_54 : decode b_R_grow 54 = .ok (.aload_n 0, 1) := by decide +kernel
theorem d_R_grow_55 : decode b_R_grow 55 = .ok (.getfield 123, 3) := by decide +kernel
theorem d_R_grow_58 : decode b_R_grow 58 = .ok (.iload_n 3, 1) := by decide +kernel
theorem d_R_grow_59 : decode b_R_grow 59 = .ok (.iastore, 1) := by decide +kernel
theorem d_R_grow_60 : decode b_R_grow 60 = .ok (.aload_n 0, 1) := by decide +kernel
theorem d_R_grow_61 : decode b_R_grow 61 = .ok (.getfield 37, 3) := by decide +kernel
theorem d_R_grow_64 : decode b_R_grow 64 = .ok (.aload_n 0, 1) := by decide +kernel
theorem d_R_grow_65 : decode b_R_grow 65 = .ok (.getfield 123, 3) := by decide +kernel
theorem d_R_grow_68 : decode b_R_grow 68 = .ok (.iconst 0, 1) := by decide +kernel
theorem d_R_grow_69 : decode b_R_grow 69 = .ok (.bastore, 1) := by decide +kernel
theorem d_R_grow_70 : decode b_R_grow 70 = .ok (.aload_n 0, 1) := by decide +kernel
theorem d_R_grow_71 : decode b_R_grow 71 = .ok (.dup, 1) := by decide +kernel
theorem d_R_grow_72 : decode b_R_grow 72 = .ok (.getfield 123, 3) := by decide +kernel
theorem d_R_grow_75 : decode b_R_grow 75 = .ok (.iconst 1, 1) := by decide +kernel
theorem d_R_grow_76 : decode b_R_grow 76 = .ok (.iadd, 1) := by decide +kernel
theorem d_R_grow_77 : decode b_R_grow 77 = .ok (.putfield 123, 3) := by decide +kernel
theorem d_R_grow_80 : decode b_R_grow 80 = .ok (.return_, 1) := by decide +kernel
theorem d_R_third_0 : decode b_R_third 0 = .ok (.iconst (-1), 1) := by decide +kernel
theorem d_R_third_1 : decode b_R_third 1 = .ok (.istore_n 3, 1) := by decide +kernel
theorem d_R_third_2 : decode b_R_third 2 = .ok (.iconst 0, 1) := by decide +kernel
theorem d_R_third_3 : decode b_R_third 3 = .ok (.istore 4, 2) := by decide +kernel
theorem d_R_third_5 : decode b_R_third 5 = .ok (.iload 4, 2) := by decide +kernel
theorem d_R_third_7 : decode b_R_third 7 = .ok (.aload_n 0, 1) := by decide +kernel
theorem d_R_third_8 : decode b_R_third 8 = .ok (.getfield 65, 3) := by decide +kernel
theorem d_R_third_11 : decode b_R_third 11 = .ok (.if_icmp .ge 39, 3) := by decide +kernel
theorem d_R_third_14 : decode b_R_third 14 = .ok (.aload_n 0, 1) := by decide +kernel
theorem d_R_third_15 : decode b_R_third 15 = .ok (.iload_n 1, 1) := by decide +kernel
theorem d_R_third_16 : decode b_R_third 16 = .ok (.iload_n 2, 1) := by decide +kernel
theorem d_R_third_17 : decode b_R_third 17 = .ok (.iload 4, 2) := by decide +kernel
theorem d_R_third_19 : decode b_R_third 19 = .ok (.invokevirtual 120, 3) := by decide +kernel
theorem d_R_third_22 : decode b_R_third 22 = .ok (.ifCond .eq 22, 3) := by decide +kernel
theorem d_R_third_25 : decode b_R_third 25 = .ok (.iload_n 3, 1) := by decide +kernel
theorem d_R_third_26 : decode b_R_third 26 = .ok (.ifCond .lt 15, 3) := by decide +kernel
theorem d_R_third_29 : decode b_R_third 29 = .ok (.aload_n 0, 1) := by decide +kernel
theorem d_R_third_30 : decode b_R_third 30 = .ok (.iload_n 1, 1) := by decide +kernel
theorem d_R_third_31 : decode b_R_third 31 = .ok (.iload_n 2, 1) := by decide +kernel
theorem d_R_third_32 : decode b_R_third 32 = .ok (.iload_n 3, 1) := by decide +kernel
theorem d_R_third_33 : decode b_R_third 33 = .ok (.iload 4, 2) := by decide +kernel
theorem d_R_third_35 : decode b_R_third 35 = .ok (.invokevirtual 112, 3) := by decide +kernel
theorem d_R_third_38 : decode b_R_third 38 = .ok (.ifCond .le 6, 3) := by decide +kernel
theorem d_R_third_41 : decode b_R_third 41 = .ok (.iload 4, 2) := by decide +kernel
theorem d_R_third_43 : decode b_R_third 43 = .ok (.istore_n 3, 1) := by decide +kernel
theorem d_R_third_44 : decode b_R_third 44 = .ok (.iinc 4 1, 3) := by decide +kernel
theorem d_R_third_47 : decode b_R_third 47 = .ok (.goto (-42), 3) := by decide +kernel
theorem d_R_third_50 : decode b_R_third 50 = .ok (.iload_n 3, 1) := by decide +kernel
theorem d_R_third_51 : decode b_R_third 51 = .ok (.ifCond .ge 5, 3) := by decide +kernel
theorem d_R_third_54 : decode b_R_third 54 = .ok (.iconst (-1), 1) := by decide +kernel
theorem d_R_third_55 : decode b_R_third 55 = .ok (.ireturn, 1) := by decide +kernel
theorem d_R_third_56 : decode b_R_third 56 = .ok (.iload_n 1, 1) := by decide +kernel
theorem d_R_third_57 : decode b_R_third 57 = .ok (.iload_n 2, 1) := by decide +kernel
theorem d_R_third_58 : decode b_R_third 58 = .ok (.if_icmp .ge 7, 3) := by decide +kernel
theorem d_R_third_61 : decode b_R_third 61 = .ok (.iload_n 1, 1) := by decide +kernel
theorem d_R_third_62 : decode b_R_third 62 = .ok (.goto 4, 3) := by decide +kernel
theorem d_R_third_65 : decode b_R_third 65 = .ok (.iload_n 2, 1) := by decide +kernel
theorem d_R_third_66 : decode b_R_third 66 = .ok (.istore 4, 2) := by decide +kernel
theorem d_R_third_68 : decode b_R_third 68 = .ok (.iconst 0, 1) := by decide +kernel
theorem d_R_third_69 : decode b_R_third 69 = .ok (.istore 5, 2) := by decide +kernel
theorem d_R_third_71 : decode b_R_third 71 = .ok (.iload 5, 2) := by decide +kernel
theorem d_R_third_73 : decode b_R_third 73 = .ok (.aload_n 0, 1) := by decide +kernel
theorem d_R_third_74 : decode b_R_third 74 = .ok (.getfield 65, 3) := by decide +kernel
theorem d_R_third_77 : decode b_R_third 77 = .ok (.if_icmp .ge 48, 3) := by decide +kernel
theorem d_R_third_80 : decode b_R_third 80 = .ok (.iload 5, 2) := by decide +kernel
theorem d_R_third_82 : decode b_R_third 82 = .ok (.iload 4, 2) := by decide +kernel
theorem d_R_third_84 : decode b_R_third 84 = .ok (.if_icmp .ge 31, 3) := by decide +kernel
theorem d_R_third_87 : decode b_R_third 87 = .ok (.aload_n 0, 1) := by decide +kernel
theorem d_R_third_88 : decode b_R_third 88 = .ok (.iload_n 1, 1) := by decide +kernel
theorem d_R_third_89 : decode b_R_third 89 = .ok (.iload_n 2, 1) := by decide +kernel
theorem d_R_third_90 : decode b_R_third 90 = .ok (.iload 5, 2) := by decide +kernel
theorem d_R_third_92 : decode b_R_third 92 = .ok (.invokevirtual 120, 3) := by decide +kernel
theorem d_R_third_95 : decode b_R_third 95 = .ok (.ifCond .eq 20, 3) := by decide +kernel
theorem d_R_third_98 : decode b_R_third 98 = .ok (.aload_n 0, 1) := by decide +kernel
theorem d_R_third_99 : decode b_R_third 99 = .ok (.iload_n 1, 1) := by decide +kernel
theorem d_R_third_100 : decode b_R_third 100 = .ok (.iload_n 2, 1) := by decide +kernel
theorem d_R_third_101 : decode b_R_third 101 = .ok (.iload_n 3, 1) := by decide +kernel
theorem d_R_third_102 : decode b_R_third 102 = .ok (.iload 5, 2) := by decide +kernel
theorem d_R_third_104 : decode b_R_third 104 = .ok (.invokevirtual 112, 3) := by decide +kernel
theorem d_R_third_107 : decode b_R_third 107 = .ok (.ifCond .ne 8, 3) := by decide +kernel
theorem d_R_third_110 : decode b_R_third 110 = .ok (.iload 5, 2) := by decide +kernel
theorem d_R_third_112 : decode b_R_third 112 = .ok (.goto 5, 3) := by decide +kernel
theorem d_R_third_115 : decode b_R_third 115 = .ok (.iload 4, 2) := by decide +kernel
theorem d_R_third_117 : decode b_R_third 117 = .ok (.istore 4, 2) := by decide +kernel
theorem d_R_third_119 : decode b_R_third 119 = .ok (.iinc 5 1, 3) := by decide +kernel
theorem d_R_third_122 : decode b_R_third 122 = .ok (.goto (-51), 3) := by decide +kernel
theorem d_R_third_125 : decode b_R_third 125 = .ok (.iload 4, 2) := by decide +kernel
theorem d_R_third_127 : decode b_R_third 127 = .ok (.iload_n 1, 1) := by decide +kernel
theorem d_R_third_128 : decode b_R_third 128 = .ok (.if_icmp .eq 12, 3) := by decide +kernel
theorem d_R_third_131 : decode b_R_third 131 = .ok (.iload 4, 2) := by decide +kernel
theorem d_R_third_133 : decode b_R_third 133 = .ok (.iload_n 2, 1) := by decide +kernel
theorem d_R_third_134 : decode b_R_third 134 = .ok (.if_icmp .eq 6, 3) := by decide +kernel
theorem d_R_third_137 : decode b_R_third 137 = .ok (.iload 4, 2) := by decide +kernel
theorem d_R_third_139 : decode b_R_third 139 = .ok (.ireturn, 1) := by decide +kernel
theorem d_R_third_140 : decode b_R_third 140 = .ok (.iload_n 3, 1) := by decide +kernel
theorem d_R_third_141 : decode b_R_third 141 = .ok (.istore 5, 2) := by decide +kernel
theorem d_R_third_143 : decode b_R_third 143 = .ok (.iconst 0, 1) := by decide +kernel
theorem d_R_third_144 : decode b_R_third 144 = .ok (.istore 6, 2) := by decide +kernel
theorem d_R_third_146 : decode b_R_third 146 = .ok (.iload 6, 2) := by decide +kernel
theorem d_R_third_148 : decode b_R_third 148 = .ok (.aload_n 0, 1) := by decide +kernel
theorem d_R_third_149 : decode b_R_third 149 = .ok (.getfield 65, 3) := by decide +kernel
theorem d_R_third_152 : decode b_R_third 152 = .ok (.if_icmp .ge 100, 3) := by decide +kernel
theorem d_R_third_155 : decode b_R_third 155 = .ok (.iload 6, 2) := by decide +kernel
theorem d_R_third_157 : decode b_R_third 157 = .ok (.iload 5, 2) := by decide +kernel
theorem d_R_third_159 : decode b_R_third 159 = .ok (.if_icmp .eq 30, 3) := by decide +kernel
theorem d_R_third_162 : decode b_R_third 162 = .ok (.aload_n 0, 1) := by decide +kernel
theorem d_R_third_163 : decode b_R_third 163 = .ok (.iload_n 1, 1) := by decide +kernel
theorem d_R_third_164 : decode b_R_third 164 = .ok (.iload_n 2, 1) := by decide +kernel
theorem d_R_third_165 : decode b_R_third 165 = .ok (.iload 6, 2) := by decide +kernel
theorem d_R_third_167 : decode b_R_third 167 = .ok (.invokevirtual 120, 3) := by decide +kernel
theorem d_R_third_170 : decode b_R_third 170 = .ok (.ifCond .eq 19, 3) := by decide +kernel
theorem d_R_third_173 : decode b_R_third 173 = .ok (.aload_n 0, 1) := by decide +kernel
theorem d_R_third_174 : decode b_R_third 174 = .ok (.iload_n 1, 1) := by decide +kernel
theorem d_R_third_175 : decode b_R_third 175 = .ok (.iload_n 2, 1) := by decide +kernel
theorem d_R_third_176 : decode b_R_third 176 = .ok (.iload_n 3, 1) := by decide +kernel
theorem d_R_third_177 : decode b_R_third 177 = .ok (.iload 6, 2) := by decide +kernel
theorem d_R_third_179 : decode b_R_third 179 = .ok (.invokevirtual 112, 3) := by decide +kernel
theorem d_R_third_182 : decode b_R_third 182 = .ok (.ifCond .ne 7, 3) := by decide +kernel
theorem d_R_third_185 : decode b_R_third 185 = .ok (.iconst 1, 1) := by decide +kernel
theorem d_R_third_186 : decode b_R_third 186 = .ok (.goto 4, 3) := by decide +kernel
theorem d_R_third_189 : decode b_R_third 189 = .ok (.iconst 0, 1) := by decide +kernel
theorem d_R_third_190 : decode b_R_third 190 = .ok (.istore 7, 2) := by decide +kernel
theorem d_R_third_192 : decode b_R_third 192 = .ok (.iload 7, 2) := by decide +kernel
theorem d_R_third_194 : decode b_R_third 194 = .ok (.ifCond .eq 33, 3) := by decide +kernel
theorem d_R_third_197 : decode b_R_third 197 = .ok (.iload 4, 2) := by decide +kernel
theorem d_R_third_199 : decode b_R_third 199 = .ok (.iload_n 1, 1) := by decide +kernel
theorem d_R_third_200 : decode b_R_third 200 = .ok (.if_icmp .ne 15, 3) := by decide +kernel
theorem d_R_third_203 : decode b_R_third 203 = .ok (.aload_n 0, 1) := by decide +kernel
theorem d_R_third_204 : decode b_R_third 204 = .ok (.iload_n 2, 1) := by decide +kernel
theorem d_R_third_205 : decode b_R_third 205 = .ok (.iload 6, 2) := by decide +kernel
theorem d_R_third_207 : decode b_R_third 207 = .ok (.iload 5, 2) := by decide +kernel
theorem d_R_third_209 : decode b_R_third 209 = .ok (.invokevirtual 75, 3) := by decide +kernel
theorem d_R_third_212 : decode b_R_third 212 = .ok (.goto 16, 3) := by decide +kernel
theorem d_R_third_215 : decode b_R_third 215 = .ok (.aload_n 0, 1) := by decide +kernel
theorem d_R_third_216 : decode b_R_third 216 = .ok (.iload 6, 2) := by decide +kernel
theorem d_R_third_218 : decode b_R_third 218 = .ok (.iload_n 1, 1) := by decide +kernel
theorem d_R_third_219 : decode b_R_third 219 = .ok (.iload 5, 2) := by decide +kernel
theorem d_R_third_221 : decode b_R_third 221 = .ok (.invokevirtual 75, 3) := by decide +kernel
theorem d_R_third_224 : decode b_R_third 224 = .ok (.goto 4, 3) := by decide +kernel
theorem d_R_third_227 : decode b_R_third 227 = .ok (.lconst 0, 1) := by decide +kernel
theorem d_R_third_228 : decode b_R_third 228 = .ok (.lstore 8, 2) := by decide +kernel
theorem d_R_third_230 : decode b_R_third 230 = .ok (.lload 8, 2) := by decide +kernel
theorem d_R_third_232 : decode b_R_third 232 = .ok (.lconst 0, 1) := by decide +kernel
theorem d_R_third_233 : decode b_R_third 233 = .ok (.lcmp, 1) := by decide +kernel
theorem d_R_third_234 : decode b_R_third 234 = .ok (.ifCond .le 8, 3) := by decide +kernel
theorem d_R_third_237 : decode b_R_third 237 = .ok (.iload 6, 2) := by decide +kernel
theorem d_R_third_239 : decode b_R_third 239 = .ok (.goto 5, 3) := by decide +kernel
theorem d_R_third_242 : decode b_R_third 242 = .ok (.iload 5, 2) := by decide +kernel
theorem d_R_third_244 : decode b_R_third 244 = .ok (.istore 5, 2) := by decide +kernel
theorem d_R_third_246 : decode b_R_third 246 = .ok (.iinc 6 1, 3) := by decide +kernel
theorem d_R_third_249 : decode b_R_third 249 = .ok (.goto (-103), 3) := by decide +kernel
theorem d_R_third_252 : decode b_R_third 252 = .ok (.iload 5, 2) := by decide +kernel
theorem d_R_third_254 : decode b_R_third 254 = .ok (.ireturn, 1) := by decide +kernel
theorem d_R_canBe_0 : decode b_R_canBe 0 = .ok (.aload_n 0, 1) := by decide +kernel
theorem d_R_canBe_1 : decode b_R_canBe 1 = .ok (.iload_n 1, 1) := by decide +kernel
theorem d_R_canBe_2 : decode b_R_canBe 2 = .ok (.iload_n 2, 1) := by decide +kernel
theorem d_R_canBe_3 : decode b_R_canBe 3 = .ok (.iload_n 3, 1) := by decide +kernel
theorem d_R_canBe_4 : decode b_R_canBe 4 = .ok (.invokevirtual 75, 3) := by decide +kernel
theorem d_R_canBe_7 : decode b_R_canBe 7 = .ok (.lconst 0, 1) := by decide +kernel
theorem d_R_canBe_8 : decode b_R_canBe 8 = .ok (.lcmp, 1) := by decide +kernel
theorem d_R_canBe_9 : decode b_R_canBe 9 = .ok (.ifCond .le 17, 3) := by decide +kernel
theorem d_R_canBe_12 : decode b_R_canBe 12 = .ok (.aload_n 0, 1) := by decide +kernel
theorem d_R_canBe_13 : decode b_R_canBe 13 = .ok (.iload_n 1, 1) := by decide +kernel
theorem d_R_canBe_14 : decode b_R_canBe 14 = .ok (.iload_n 2, 1) := by decide +kernel
theorem d_R_canBe_15 : decode b_R_canBe 15 = .ok (.iload_n 3, 1) := by decide +kernel
theorem d_R_canBe_16 : decode b_R_canBe 16 = .ok (.invokevirtual 116, 3) := by decide +kernel
theorem d_R_canBe_19 : decode b_R_canBe 19 = .ok (.ifCond .eq 7, 3) := by decide +kernel
theorem d_R_canBe_22 : decode b_R_canBe 22 = .ok (.iconst 1, 1) := by decide +kernel
theorem d_R_canBe_23 : decode b_R_canBe 23 = .ok (.goto 4, 3) := by decide +kernel
theorem d_R_canBe_26 : decode b_R_canBe 26 = .ok (.iconst 0, 1) := by decide +kernel
theorem d_R_canBe_27 : decode b_R_canBe 27 = .ok (.ireturn, 1) := by decide +kernel
theorem d_R_clear_0 : decode b_R_clear 0 = .ok (.iconst 0, 1) := by decide +kernel
theorem d_R_clear_1 : decode b_R_clear 1 = .ok (.istore 4, 2) := by decide +kernel
theorem d_R_clear_3 : decode b_R_clear 3 = .ok (.iload 4, 2) := by decide +kernel
theorem d_R_clear_5 : decode b_R_clear 5 = .ok (.aload_n 0, 1) := by decide +kernel
theorem d_R_clear_6 : decode b_R_clear 6 = .ok (.getfield 65, 3) := by decide +kernel
theorem d_R_clear_9 : decode b_R_clear 9 = .ok (.if_icmp .ge 80, 3) := by decide +kernel
theorem d_R_clear_12 : decode b_R_clear 12 = .ok (.iload 4, 2) := by decide +kernel
theorem d_R_clear_14 : decode b_R_clear 14 = .ok (.iload_n 1, 1) := by decide +kernel
theorem d_R_clear_15 : decode b_R_clear 15 = .ok (.if_icmp .eq 19, 3) := by decide +kernel
theorem d_R_clear_18 : decode b_R_clear 18 = .ok (.iload 4, 2) := by decide +kernel
theorem d_R_clear_20 : decode b_R_clear 20 = .ok (.iload_n 2, 1) := by decide +kernel
theorem d_R_clear_21 : decode b_R_clear 21 = .ok (.if_icmp .eq 13, 3) := by decide +kernel
theorem d_R_clear_24 : decode b_R_clear 24 = .ok (.iload 4, 2) := by decide +kernel
theorem d_R_clear_26 : decode b_R_clear 26 = .ok (.iload_n 3, 1) := by decide +kernel
theorem d_R_clear_27 : decode b_R_clear 27 = .ok (.if_icmp .eq 7, 3) := by decide +kernel
theorem d_R_clear_30 : decode b_R_clear 30 = .ok (.iconst 1, 1) := by decide +kernel
theorem d_R_clear_31 : decode b_R_clear 31 = .ok (.goto 4, 3) := by decide +kernel
theorem d_R_clear_34 : decode b_R_clear 34 = .ok (.iconst 0, 1) := by decide +kernel
theorem d_R_clear_35 : decode b_R_clear 35 = .ok (.istore 5, 2) := by decide +kernel
theorem d_R_clear_37 : decode b_R_clear 37 = .ok (.iload 5, 2) := by decide +kernel
theorem d_R_clear_39 : decode b_R_clear 39 = .ok (.ifCond .eq 44, 3) := by decide +kernel
theorem d_R_clear_42 : decode b_R_clear 42 = .ok (.aload_n 0, 1) := by decide +kernel
theorem d_R_clear_43 : decode b_R_clear 43 = .ok (.iload_n 1, 1) := by decide +kernel
theorem d_R_clear_44 : decode b_R_clear 44 = .ok (.iload_n 2, 1) := by decide +kernel
theorem d_R_clear_45 : decode b_R_clear 45 = .ok (.iload 4, 2) := by decide +kernel
theorem d_R_clear_47 : decode b_R_clear 47 = .ok (.invokevirtual 75, 3) := by decide +kernel
theorem d_R_clear_50 : decode b_R_clear 50 = .ok (.lconst 0, 1) := by decide +kernel
theorem d_R_clear_51 : decode b_R_clear 51 = .ok (.lcmp, 1) := by decide +kernel
theorem d_R_clear_52 : decode b_R_clear 52 = .ok (.ifCond .lt 31, 3) := by decide +kernel
theorem d_R_clear_55 : decode b_R_clear 55 = .ok (.aload_n 0, 1) := by decide +kernel
theorem d_R_clear_56 : decode b_R_clear 56 = .ok (.iload_n 2, 1) := by decide +kernel
theorem d_R_clear_57 : decode b_R_clear 57 = .ok (.iload_n 3, 1) := by decide +kernel
theorem d_R_clear_58 : decode b_R_clear 58 = .ok (.iload 4, 2) := by decide +kernel
theorem d_R_clear_60 : decode b_R_clear 60 = .ok (.invokevirtual 75, 3) := by decide +kernel
theorem d_R_clear_63 : decode b_R_clear 63 = .ok (.lconst 0, 1) := by decide +kernel
theorem d_R_clear_64 : decode b_R_clear 64 = .ok (.lcmp, 1) := by decide +kernel
theorem d_R_clear_65 : decode b_R_clear 65 = .ok (.ifCond .lt 18, 3) := by decide +kernel
theorem d_R_clear_68 : decode b_R_clear 68 = .ok (.aload_n 0, 1) := by decide +kernel
theorem d_R_clear_69 : decode b_R_clear 69 = .ok (.iload_n 3, 1) := by decide +kernel
theorem d_R_clear_70 : decode b_R_clear 70 = .ok (.iload_n 1, 1) := by decide +kernel
theorem d_R_clear_71 : decode b_R_clear 71 = .ok (.iload 4, 2) := by decide +kernel
theorem d_R_clear_73 : decode b_R_clear 73 = .ok (.invokevirtual 75, 3) := by decide +kernel
theorem d_R_clear_76 : decode b_R_clear 76 = .ok (.lconst 0, 1) := by decide +kernel
theorem d_R_clear_77 : decode b_R_clear 77 = .ok (.lcmp, 1) := by decide +kernel
theorem d_R_clear_78 : decode b_R_clear 78 = .ok (.ifCond .lt 5, 3) := by decide +kernel
theorem d_R_clear_81 : decode b_R_clear 81 = .ok (.iconst 0, 1) := by decide +kernel
theorem d_R_clear_82 : decode b_R_clear 82 = .ok (.ireturn, 1) := by decide +kernel
theorem d_R_clear_83 : decode b_R_clear 83 = .ok (.iinc 4 1, 3) := by decide +kernel
theorem d_R_clear_86 : decode b_R_clear 86 = .ok (.goto (-83), 3) := by decide +kernel
theorem d_R_clear_89 : decode b_R_clear 89 = .ok (.iconst 0, 1) := by decide +kernel
theorem d_R_clear_90 : decode b_R_clear 90 = .ok (.istore 4, 2) := by decide +kernel
theorem d_R_clear_92 : decode b_R_clear 92 = .ok (.iload 4, 2) := by decide +kernel
theorem d_R_clear_94 : decode b_R_clear 94 = .ok (.aload_n 0, 1) := by decide +kernel
theorem d_R_clear_95 : decode b_R_clear 95 = .ok (.getfield 83, 3) := by decide +kernel
theorem d_R_clear_98 : decode b_R_clear 98 = .ok (.if_icmp .ge 57, 3) := by decide +kernel
theorem d_R_clear_101 : decode b_R_clear 101 = .ok (.aload_n 0, 1) := by decide +kernel
theorem d_R_clear_102 : decode b_R_clear 102 = .ok (.iload_n 2, 1) := by decide +kernel
theorem d_R_clear_103 : decode b_R_clear 103 = .ok (.iload_n 3, 1) := by decide +kernel
theorem d_R_clear_104 : decode b_R_clear 104 = .ok (.aload_n 0, 1) := by decide +kernel
theorem d_R_clear_105 : decode b_R_clear 105 = .ok (.getfield 16, 3) := by decide +kernel
theorem d_R_clear_108 : decode b_R_clear 108 = .ok (.iload 4, 2) := by decide +kernel
theorem d_R_clear_110 : decode b_R_clear 110 = .ok (.iaload, 1) := by decide +kernel
theorem d_R_clear_111 : decode b_R_clear 111 = .ok (.aload_n 0, 1) := by decide +kernel
theorem d_R_clear_112 : decode b_R_clear 112 = .ok (.getfield 19, 3) := by decide +kernel
theorem d_R_clear_115 : decode b_R_clear 115 = .ok (.iload 4, 2) := by decide +kernel
theorem d_R_clear_117 : decode b_R_clear 117 = .ok (.iaload, 1) := by decide +kernel
theorem d_R_clear_118 : decode b_R_clear 118 = .ok (.invokevirtual 101, 3) := by decide +kernel
theorem d_R_clear_121 : decode b_R_clear 121 = .ok (.ifCond .ne 26, 3) := by decide +kernel
theorem d_R_clear_124 : decode b_R_clear 124 = .ok (.aload_n 0, 1) := by decide +kernel
theorem d_R_clear_125 : decode b_R_clear 125 = .ok (.iload_n 3, 1) := by decide +kernel
theorem d_R_clear_126 : decode b_R_clear 126 = .ok (.iload_n 1, 1) := by decide +kernel
theorem d_R_clear_127 : decode b_R_clear 127 = .ok (.aload_n 0, 1) := by decide +kernel
theorem d_R_clear_128 : decode b_R_clear 128 = .ok (.getfield 16, 3) := by decide +kernel
theorem d_R_clear_131 : decode b_R_clear 131 = .ok (.iload 4, 2) := by decide +kernel
theorem d_R_clear_133 : decode b_R_clear 133 = .ok (.iaload, 1) := by decide +kernel
theorem d_R_clear_134 : decode b_R_clear 134 = .ok (.aload_n 0, 1) := by decide +kernel
theorem d_R_clear_135 : decode b_R_clear 135 = .ok (.getfield 19, 3) := by decide +kernel
theorem d_R_clear_138 : decode b_R_clear 138 = .ok (.iload 4, 2) := by decide +kernel
theorem d_R_clear_140 : decode b_R_clear 140 = .ok (.iaload, 1) := by decide +kernel
theorem d_R_clear_141 : decode b_R_clear 141 = .ok (.invokevirtual 101, 3) := by decide +kernel
theorem d_R_clear_144 : decode b_R_clear 144 = .ok (.ifCond .eq 5, 3) := by decide +kernel
theorem d_R_clear_147 : decode b_R_clear 147 = .ok (.iconst 0, 1) := by decide +kernel
theorem d_R_clear_148 : decode b_R_clear 148 = .ok (.ireturn, 1) := by decide +kernel
theorem d_R_clear_149 : decode b_R_clear 149 = .ok (.iinc 4 1, 3) := by decide +kernel
theorem d_R_clear_152 : decode b_R_clear 152 = .ok (.goto (-60), 3) := by decide +kernel
theorem d_R_clear_155 : decode b_R_clear 155 = .ok (.iconst 1, 1) := by decide +kernel
theorem d_R_clear_156 : decode b_R_clear 156 = .ok (.ireturn, 1) := by decide +kernel
theorem d_R_has_0 : decode b_R_has 0 = .ok (.iconst 0, 1) := by decide +kernel
theorem d_R_has_1 : decode b_R_has 1 = .ok (.istore 4, 2) := by decide +kernel
theorem d_R_has_3 : decode b_R_has 3 = .ok (.iconst 0, 1) := by decide +kernel
theorem d_R_has_4 : decode b_R_has 4 = .ok (.istore 5, 2) := by decide +kernel
theorem d_R_has_6 : decode b_R_has 6 = .ok (.iload 5, 2) := by decide +kernel
