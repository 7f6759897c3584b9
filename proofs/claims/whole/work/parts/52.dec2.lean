theorem d_X_inCircle_0 : decode b_X_inCircle 0 = .ok (.aload_n 0, 1) := by decide +kernel
theorem d_X_inCircle_1 : decode b_X_inCircle 1 = .ok (.getfield 20, 3) := by decide +kernel
theorem d_X_inCircle_4 : decode b_X_inCircle 4 = .ok (.iload_n 1, 1) := by decide +kernel
theorem d_X_inCircle_5 : decode b_X_inCircle 5 = .ok (.invokevirtual 67, 3) := by decide +kernel
theorem d_X_inCircle_8 : decode b_X_inCircle 8 = .ok (.ifCond .eq 37, 3) := by decide +kernel
theorem d_X_inCircle_11 : decode b_X_inCircle 11 = .ok (.aload_n 0, 1) := by decide +kernel
theorem d_X_inCircle_12 : decode b_X_inCircle 12 = .ok (.getfield 20, 3) := by decide +kernel
theorem d_X_inCircle_15 : decode b_X_inCircle 15 = .ok (.iload_n 2, 1) := by decide +kernel
theorem d_X_inCircle_16 : decode b_X_inCircle 16 = .ok (.invokevirtual 67, 3) := by decide +kernel
theorem d_X_inCircle_19 : decode b_X_inCircle 19 = .ok (.ifCond .eq 26, 3) := by decide +kernel
theorem d_X_inCircle_22 : decode b_X_inCircle 22 = .ok (.aload_n 0, 1) := by decide +kernel
theorem d_X_inCircle_23 : decode b_X_inCircle 23 = .ok (.getfield 20, 3) := by decide +kernel
theorem d_X_inCircle_26 : decode b_X_inCircle 26 = .ok (.iload_n 3, 1) := by decide +kernel
theorem d_X_inCircle_27 : decode b_X_inCircle 27 = .ok (.invokevirtual 67, 3) := by decide +kernel
theorem d_X_inCircle_30 : decode b_X_inCircle 30 = .ok (.ifCond .eq 15, 3) := by decide +kernel
theorem d_X_inCircle_33 : decode b_X_inCircle 33 = .ok (.aload_n 0, 1) := by decide +kernel
theorem d_X_inCircle_34 : decode b_X_inCircle 34 = .ok (.getfield 20, 3) := by decide +kernel
theorem d_X_inCircle_37 : decode b_X_inCircle 37 = .ok (.iload 4, 2) := by decide +kernel
theorem d_X_inCircle_39 : decode b_X_inCircle 39 = .ok (.invokevirtual 67, 3) := by decide +kernel
theorem d_X_inCircle_42 : decode b_X_inCircle 42 = .ok (.ifCond .ne 5, 3) := by decide +kernel
theorem d_X_inCircle_45 : decode b_X_inCircle 45 = .ok (.iconst 2, 1) := by decide +kernel
theorem d_X_inCircle_46 : decode b_X_inCircle 46 = .ok (.ireturn, 1) := by decide +kernel
theorem d_X_inCircle_47 : decode b_X_inCircle 47 = .ok (.aload_n 0, 1) := by decide +kernel
theorem d_X_inCircle_48 : decode b_X_inCircle 48 = .ok (.getfield 20, 3) := by decide +kernel
theorem d_X_inCircle_51 : decode b_X_inCircle 51 = .ok (.iload_n 1, 1) := by decide +kernel
theorem d_X_inCircle_52 : decode b_X_inCircle 52 = .ok (.iload_n 2, 1) := by decide +kernel
theorem d_X_inCircle_53 : decode b_X_inCircle 53 = .ok (.iload_n 3, 1) := by decide +kernel
theorem d_X_inCircle_54 : decode b_X_inCircle 54 = .ok (.invokevirtual 83, 3) := by decide +kernel
theorem d_X_inCircle_57 : decode b_X_inCircle 57 = .ok (.istore 5, 2) := by decide +kernel
theorem d_X_inCircle_59 : decode b_X_inCircle 59 = .ok (.iload 5, 2) := by decide +kernel
theorem d_X_inCircle_61 : decode b_X_inCircle 61 = .ok (.ifCond .ne 7, 3) := by decide +kernel
theorem d_X_inCircle_64 : decode b_X_inCircle 64 = .ok (.iconst 2, 1) := by decide +kernel
theorem d_X_inCircle_65 : decode b_X_inCircle 65 = .ok (.goto 18, 3) := by decide +kernel
theorem d_X_inCircle_68 : decode b_X_inCircle 68 = .ok (.iload 5, 2) := by decide +kernel
theorem d_X_inCircle_70 : decode b_X_inCircle 70 = .ok (.aload_n 0, 1) := by decide +kernel
theorem d_X_inCircle_71 : decode b_X_inCircle 71 = .ok (.getfield 20, 3) := by decide +kernel
theorem d_X_inCircle_74 : decode b_X_inCircle 74 = .ok (.iload_n 1, 1) := by decide +kernel
theorem d_X_inCircle_75 : decode b_X_inCircle 75 = .ok (.iload_n 2, 1) := by decide +kernel
theorem d_X_inCircle_76 : decode b_X_inCircle 76 = .ok (.iload_n 3, 1) := by decide +kernel
theorem d_X_inCircle_77 : decode b_X_inCircle 77 = .ok (.iload 4, 2) := by decide +kernel
theorem d_X_inCircle_79 : decode b_X_inCircle 79 = .ok (.invokevirtual 87, 3) := by decide +kernel
theorem d_X_inCircle_82 : decode b_X_inCircle 82 = .ok (.imul, 1) := by decide +kernel
theorem d_X_inCircle_83 : decode b_X_inCircle 83 = .ok (.ireturn, 1) := by decide +kernel
theorem d_P_sideOfCircle_0 : decode b_P_sideOfCircle 0 = .ok (.aload_n 0, 1) := by decide +kernel
theorem d_P_sideOfCircle_1 : decode b_P_sideOfCircle 1 = .ok (.iload_n 1, 1) := by decide +kernel
theorem d_P_sideOfCircle_2 : decode b_P_sideOfCircle 2 = .ok (.iload 4, 2) := by decide +kernel
theorem d_P_sideOfCircle_4 : decode b_P_sideOfCircle 4 = .ok (.invokevirtual 36, 3) := by decide +kernel
theorem d_P_sideOfCircle_7 : decode b_P_sideOfCircle 7 = .ok (.aload_n 0, 1) := by decide +kernel
theorem d_P_sideOfCircle_8 : decode b_P_sideOfCircle 8 = .ok (.iload_n 2, 1) := by decide +kernel
theorem d_P_sideOfCircle_9 : decode b_P_sideOfCircle 9 = .ok (.iload_n 3, 1) := by decide +kernel
theorem d_P_sideOfCircle_10 : decode b_P_sideOfCircle 10 = .ok (.aload_n 0, 1) := by decide +kernel
theorem d_P_sideOfCircle_11 : decode b_P_sideOfCircle 11 = .ok (.getfield 9, 3) := by decide +kernel
theorem d_P_sideOfCircle_14 : decode b_P_sideOfCircle 14 = .ok (.iload 4, 2) := by decide +kernel
theorem d_P_sideOfCircle_16 : decode b_P_sideOfCircle 16 = .ok (.iaload, 1) := by decide +kernel
theorem d_P_sideOfCircle_17 : decode b_P_sideOfCircle 17 = .ok (.aload_n 0, 1) := by decide +kernel
theorem d_P_sideOfCircle_18 : decode b_P_sideOfCircle 18 = .ok (.getfield 15, 3) := by decide +kernel
theorem d_P_sideOfCircle_21 : decode b_P_sideOfCircle 21 = .ok (.iload 4, 2) := by decide +kernel
theorem d_P_sideOfCircle_23 : decode b_P_sideOfCircle 23 = .ok (.iaload, 1) := by decide +kernel
theorem d_P_sideOfCircle_24 : decode b_P_sideOfCircle 24 = .ok (.invokevirtual 26, 3) := by decide +kernel
theorem d_P_sideOfCircle_27 : decode b_P_sideOfCircle 27 = .ok (.aload_n 0, 1) := by decide +kernel
theorem d_P_sideOfCircle_28 : decode b_P_sideOfCircle 28 = .ok (.iload_n 2, 1) := by decide +kernel
theorem d_P_sideOfCircle_29 : decode b_P_sideOfCircle 29 = .ok (.iload 4, 2) := by decide +kernel
theorem d_P_sideOfCircle_31 : decode b_P_sideOfCircle 31 = .ok (.invokevirtual 36, 3) := by decide +kernel
theorem d_P_sideOfCircle_34 : decode b_P_sideOfCircle 34 = .ok (.aload_n 0, 1) := by decide +kernel
theorem d_P_sideOfCircle_35 : decode b_P_sideOfCircle 35 = .ok (.iload_n 3, 1) := by decide +kernel
theorem d_P_sideOfCircle_36 : decode b_P_sideOfCircle 36 = .ok (.iload_n 1, 1) := by decide +kernel
theorem d_P_sideOfCircle_37 : decode b_P_sideOfCircle 37 = .ok (.aload_n 0, 1) := by decide +kernel
theorem d_P_sideOfCircle_38 : decode b_P_sideOfCircle 38 = .ok (.getfield 9, 3) := by decide +kernel
theorem d_P_sideOfCircle_41 : decode b_P_sideOfCircle 41 = .ok (.iload 4, 2) := by decide +kernel
theorem d_P_sideOfCircle_43 : decode b_P_sideOfCircle 43 = .ok (.iaload, 1) := by decide +kernel
theorem d_P_sideOfCircle_44 : decode b_P_sideOfCircle 44 = .ok (.aload_n 0, 1) := by decide +kernel
theorem d_P_sideOfCircle_45 : decode b_P_sideOfCircle 45 = .ok (.getfield 15, 3) := by decide +kernel
theorem d_P_sideOfCircle_48 : decode b_P_sideOfCircle 48 = .ok (.iload 4, 2) := by decide +kernel
theorem d_P_sideOfCircle_50 : decode b_P_sideOfCircle 50 = .ok (.iaload, 1) := by decide +kernel
theorem d_P_sideOfCircle_51 : decode b_P_sideOfCircle 51 = .ok (.invokevirtual 26, 3) := by decide +kernel
theorem d_P_sideOfCircle_54 : decode b_P_sideOfCircle 54 = .ok (.aload_n 0, 1) := by decide +kernel
theorem d_P_sideOfCircle_55 : decode b_P_sideOfCircle 55 = .ok (.iload_n 3, 1) := by decide +kernel
theorem d_P_sideOfCircle_56 : decode b_P_sideOfCircle 56 = .ok (.iload 4, 2) := by decide +kernel
theorem d_P_sideOfCircle_58 : decode b_P_sideOfCircle 58 = .ok (.invokevirtual 36, 3) := by decide +kernel
theorem d_P_sideOfCircle_61 : decode b_P_sideOfCircle 61 = .ok (.aload_n 0, 1) := by decide +kernel
theorem d_P_sideOfCircle_62 : decode b_P_sideOfCircle 62 = .ok (.iload_n 1, 1) := by decide +kernel
theorem d_P_sideOfCircle_63 : decode b_P_sideOfCircle 63 = .ok (.iload_n 2, 1) := by decide +kernel
theorem d_P_sideOfCircle_64 : decode b_P_sideOfCircle 64 = .ok (.aload_n 0, 1) := by decide +kernel
theorem d_P_sideOfCircle_65 : decode b_P_sideOfCircle 65 = .ok (.getfield 9, 3) := by decide +kernel
theorem d_P_sideOfCircle_68 : decode b_P_sideOfCircle 68 = .ok (.iload 4, 2) := by decide +kernel
theorem d_P_sideOfCircle_70 : decode b_P_sideOfCircle 70 = .ok (.iaload, 1) := by decide +kernel
theorem d_P_sideOfCircle_71 : decode b_P_sideOfCircle 71 = .ok (.aload_n 0, 1) := by decide +kernel
theorem d_P_sideOfCircle_72 : decode b_P_sideOfCircle 72 = .ok (.getfield 15, 3) := by decide +kernel
theorem d_P_sideOfCircle_75 : decode b_P_sideOfCircle 75 = .ok (.iload 4, 2) := by decide +kernel
theorem d_P_sideOfCircle_77 : decode b_P_sideOfCircle 77 = .ok (.iaload, 1) := by decide +kernel
theorem d_P_sideOfCircle_78 : decode b_P_sideOfCircle 78 = .ok (.invokevirtual 26, 3) := by decide +kernel
theorem d_P_sideOfCircle_81 : decode b_P_sideOfCircle 81 = .ok (.invokestatic 40, 3) := by decide +kernel
theorem d_P_sideOfCircle_84 : decode b_P_sideOfCircle 84 = .ok (.ireturn, 1) := by decide +kernel
theorem d_P_squareDistance_0 : decode b_P_squareDistance 0 = .ok (.aload_n 0, 1) := by decide +kernel
theorem d_P_squareDistance_1 : decode b_P_squareDistance 1 = .ok (.getfield 9, 3) := by decide +kernel
theorem d_P_squareDistance_4 : decode b_P_squareDistance 4 = .ok (.iload_n 2, 1) := by decide +kernel
theorem d_P_squareDistance_5 : decode b_P_squareDistance 5 = .ok (.iaload, 1) := by decide +kernel
theorem d_P_squareDistance_6 : decode b_P_squareDistance 6 = .ok (.i2l, 1) := by decide +kernel
theorem d_P_squareDistance_7 : decode b_P_squareDistance 7 = .ok (.aload_n 0, 1) := by decide +kernel
theorem d_P_squareDistance_8 : decode b_P_squareDistance 8 = .ok (.getfield 9, 3) := by decide +kernel
theorem d_P_squareDistance_11 : decode b_P_squareDistance 11 = .ok (.iload_n 1, 1) := by decide +kernel
theorem d_P_squareDistance_12 : decode b_P_squareDistance 12 = .ok (.iaload, 1) := by decide +kernel
theorem d_P_squareDistance_13 : decode b_P_squareDistance 13 = .ok (.i2l, 1) := by decide +kernel
theorem d_P_squareDistance_14 : decode b_P_squareDistance 14 = .ok (.lsub, 1) := by decide +kernel
theorem d_P_squareDistance_15 : decode b_P_squareDistance 15 = .ok (.lstore_n 3, 1) := by decide +kernel
theorem d_P_squareDistance_16 : decode b_P_squareDistance 16 = .ok (.aload_n 0, 1) := by decide +kernel
theorem d_P_squareDistance_17 : decode b_P_squareDistance 17 = .ok (.getfield 15, 3) := by decide +kernel
theorem d_P_squareDistance_20 : decode b_P_squareDistance 20 = .ok (.iload_n 2, 1) := by decide +kernel
theorem d_P_squareDistance_21 : decode b_P_squareDistance 21 = .ok (.iaload, 1) := by decide +kernel
theorem d_P_squareDistance_22 : decode b_P_squareDistance 22 = .ok (.i2l, 1) := by decide +kernel
theorem d_P_squareDistance_23 : decode b_P_squareDistance 23 = .ok (.aload_n 0, 1) := by decide +kernel
theorem d_P_squareDistance_24 : decode b_P_squareDistance 24 = .ok (.getfield 15, 3) := by decide +kernel
theorem d_P_squareDistance_27 : decode b_P_squareDistance 27 = .ok (.iload_n 1, 1) := by decide +kernel
theorem d_P_squareDistance_28 : decode b_P_squareDistance 28 = .ok (.iaload, 1) := by decide +kernel
theorem d_P_squareDistance_29 : decode b_P_squareDistance 29 = .ok (.i2l, 1) := by decide +kernel
theorem d_P_squareDistance_30 : decode b_P_squareDistance 30 = .ok (.lsub, 1) := by decide +kernel
theorem d_P_squareDistance_31 : decode b_P_squareDistance 31 = .ok (.lstore 5, 2) := by decide +kernel
theorem d_P_squareDistance_33 : decode b_P_squareDistance 33 = .ok (.lload_n 3, 1) := by decide +kernel
theorem d_P_squareDistance_34 : decode b_P_squareDistance 34 = .ok (.lload_n 3, 1) := by decide +kernel
theorem d_P_squareDistance_35 : decode b_P_squareDistance 35 = .ok (.lmul, 1) := by decide +kernel
theorem d_P_squareDistance_36 : decode b_P_squareDistance 36 = .ok (.lload 5, 2) := by decide +kernel
theorem d_P_squareDistance_38 : decode b_P_squareDistance 38 = .ok (.lload 5, 2) := by decide +kernel
theorem d_P_squareDistance_40 : decode b_P_squareDistance 40 = .ok (.lmul, 1) := by decide +kernel
theorem d_P_squareDistance_41 : decode b_P_squareDistance 41 = .ok (.ladd, 1) := by decide +kernel
theorem d_P_squareDistance_42 : decode b_P_squareDistance 42 = .ok (.lreturn, 1) := by decide +kernel
theorem d_E_signOfProducts_0 : decode b_E_signOfProducts 0 = .ok (.lload_n 0, 1) := by decide +kernel
theorem d_E_signOfProducts_1 : decode b_E_signOfProducts 1 = .ok (.invokestatic 9, 3) := by decide +kernel
theorem d_E_signOfProducts_4 : decode b_E_signOfProducts 4 = .ok (.lload_n 2, 1) := by decide +kernel
theorem d_E_signOfProducts_5 : decode b_E_signOfProducts 5 = .ok (.invokestatic 9, 3) := by decide +kernel
theorem d_E_signOfProducts_8 : decode b_E_signOfProducts 8 = .ok (.lmul, 1) := by decide +kernel
theorem d_E_signOfProducts_9 : decode b_E_signOfProducts 9 = .ok (.lload 4, 2) := by decide +kernel
theorem d_E_signOfProducts_11 : decode b_E_signOfProducts 11 = .ok (.invokestatic 9, 3) := by decide +kernel
theorem d_E_signOfProducts_14 : decode b_E_signOfProducts 14 = .ok (.lload 6, 2) := by decide +kernel
theorem d_E_signOfProducts_16 : decode b_E_signOfProducts 16 = .ok (.invokestatic 9, 3) := by decide +kernel
theorem d_E_signOfProducts_19 : decode b_E_signOfProducts 19 = .ok (.lmul, 1) := by decide +kernel
theorem d_E_signOfProducts_20 : decode b_E_signOfProducts 20 = .ok (.ladd, 1) := by decide +kernel
theorem d_E_signOfProducts_21 : decode b_E_signOfProducts 21 = .ok (.lload 8, 2) := by decide +kernel
theorem d_E_signOfProducts_23 : decode b_E_signOfProducts 23 = .ok (.invokestatic 9, 3) := by decide +kernel
theorem d_E_signOfProducts_26 : decode b_E_signOfProducts 26 = .ok (.lload 10, 2) := by decide +kernel
theorem d_E_signOfProducts_28 : decode b_E_signOfProducts 28 = .ok (.invokestatic 9, 3) := by decide +kernel
theorem d_E_signOfProducts_31 : decode b_E_signOfProducts 31 = .ok (.lmul, 1) := by decide +kernel
theorem d_E_signOfProducts_32 : decode b_E_signOfProducts 32 = .ok (.ladd, 1) := by decide +kernel
theorem d_E_signOfProducts_33 : decode b_E_signOfProducts 33 = .ok (.lstore 12, 2) := by decide +kernel
theorem d_E_signOfProducts_35 : decode b_E_signOfProducts 35 = .ok (.lload_n 0, 1) := by decide +kernel
theorem d_E_signOfProducts_36 : decode b_E_signOfProducts 36 = .ok (.lload_n 2, 1) := by decide +kernel
theorem d_E_signOfProducts_37 : decode b_E_signOfProducts 37 = .ok (.invokestatic 13, 3) := by decide +kernel
theorem d_E_signOfProducts_40 : decode b_E_signOfProducts 40 = .ok (.lload 4, 2) := by decide +kernel
theorem d_E_signOfProducts_42 : decode b_E_signOfProducts 42 = .ok (.lload 6, 2) := by decide +kernel
theorem d_E_signOfProducts_44 : decode b_E_signOfProducts 44 = .ok (.invokestatic 13, 3) := by decide +kernel
theorem d_E_signOfProducts_47 : decode b_E_signOfProducts 47 = .ok (.ladd, 1) := by decide +kernel
theorem d_E_signOfProducts_48 : decode b_E_signOfProducts 48 = .ok (.lload 8, 2) := by decide +kernel
theorem d_E_signOfProducts_50 : decode b_E_signOfProducts 50 = .ok (.lload 10, 2) := by decide +kernel
theorem d_E_signOfProducts_52 : decode b_E_signOfProducts 52 = .ok (.invokestatic 13, 3) := by decide +kernel
theorem d_E_signOfProducts_55 : decode b_E_signOfProducts 55 = .ok (.ladd, 1) := by decide +kernel
theorem d_E_signOfProducts_56 : decode b_E_signOfProducts 56 = .ok (.lstore 14, 2) := by decide +kernel
theorem d_E_signOfProducts_58 : decode b_E_signOfProducts 58 = .ok (.lload_n 0, 1) := by decide +kernel
theorem d_E_signOfProducts_59 : decode b_E_signOfProducts 59 = .ok (.invokestatic 17, 3) := by decide +kernel
theorem d_E_signOfProducts_62 : decode b_E_signOfProducts 62 = .ok (.lload_n 2, 1) := by decide +kernel
theorem d_E_signOfProducts_63 : decode b_E_signOfProducts 63 = .ok (.invokestatic 17, 3) := by decide +kernel
theorem d_E_signOfProducts_66 : decode b_E_signOfProducts 66 = .ok (.lmul, 1) := by decide +kernel
theorem d_E_signOfProducts_67 : decode b_E_signOfProducts 67 = .ok (.lload 4, 2) := by decide +kernel
theorem d_E_signOfProducts_69 : decode b_E_signOfProducts 69 = .ok (.invokestatic 17, 3) := by decide +kernel
theorem d_E_signOfProducts_72 : decode b_E_signOfProducts 72 = .ok (.lload 6, 2) := by decide +kernel
theorem d_E_signOfProducts_74 : decode b_E_signOfProducts 74 = .ok (.invokestatic 17, 3) := by decide +kernel
theorem d_E_signOfProducts_77 : decode b_E_signOfProducts 77 = .ok (.lmul, 1) := by decide +kernel
theorem d_E_signOfProducts_78 : decode b_E_signOfProducts 78 = .ok (.ladd, 1) := by decide +kernel
theorem d_E_signOfProducts_79 : decode b_E_signOfProducts 79 = .ok (.lload 8, 2) := by decide +kernel
theorem d_E_signOfProducts_81 : decode b_E_signOfProducts 81 = .ok (.invokestatic 17, 3) := by decide +kernel
theorem d_E_signOfProducts_84 : decode b_E_signOfProducts 84 = .ok (.lload 10, 2) := by decide +kernel
theorem d_E_signOfProducts_86 : decode b_E_signOfProducts 86 = .ok (.invokestatic 17, 3) := by decide +kernel
theorem d_E_signOfProducts_89 : decode b_E_signOfProducts 89 = .ok (.lmul, 1) := by decide +kernel
theorem d_E_signOfProducts_90 : decode b_E_signOfProducts 90 = .ok (.ladd, 1) := by decide +kernel
theorem d_E_signOfProducts_91 : decode b_E_signOfProducts 91 = .ok (.lstore 16, 2) := by decide +kernel
theorem d_E_signOfProducts_93 : decode b_E_signOfProducts 93 = .ok (.lload 14, 2) := by decide +kernel
theorem d_E_signOfProducts_95 : decode b_E_signOfProducts 95 = .ok (.lload 16, 2) := by decide +kernel
theorem d_E_signOfProducts_97 : decode b_E_signOfProducts 97 = .ok (.bipush 22, 2) := by decide +kernel
theorem d_E_signOfProducts_99 : decode b_E_signOfProducts 99 = .ok (.lshr, 1) := by decide +kernel
theorem d_E_signOfProducts_100 : decode b_E_signOfProducts 100 = .ok (.ladd, 1) := by decide +kernel
theorem d_E_signOfProducts_101 : decode b_E_signOfProducts 101 = .ok (.lstore 14, 2) := by decide +kernel
theorem d_E_signOfProducts_103 : decode b_E_signOfProducts 103 = .ok (.lload 12, 2) := by decide +kernel
theorem d_E_signOfProducts_105 : decode b_E_signOfProducts 105 = .ok (.lload 14, 2) := by decide +kernel
theorem d_E_signOfProducts_107 : decode b_E_signOfProducts 107 = .ok (.bipush 22, 2) := by decide +kernel
theorem d_E_signOfProducts_109 : decode b_E_signOfProducts 109 = .ok (.lshr, 1) := by decide +kernel
theorem d_E_signOfProducts_110 : decode b_E_signOfProducts 110 = .ok (.ladd, 1) := by decide +kernel
theorem d_E_signOfProducts_111 : decode b_E_signOfProducts 111 = .ok (.lstore 12, 2) := by decide +kernel
theorem d_E_signOfProducts_113 : decode b_E_signOfProducts 113 = .ok (.lload 12, 2) := by decide +kernel
theorem d_E_signOfProducts_115 : decode b_E_signOfProducts 115 = .ok (.lconst 0, 1) := by decide +kernel
theorem d_E_signOfProducts_116 : decode b_E_signOfProducts 116 = .ok (.lcmp, 1) := by decide +kernel
theorem d_E_signOfProducts_117 : decode b_E_signOfProducts 117 = .ok (.ifCond .eq 9, 3) := by decide +kernel
theorem d_E_signOfProducts_120 : decode b_E_signOfProducts 120 = .ok (.lload 12, 2) := by decide +kernel
theorem d_E_signOfProducts_122 : decode b_E_signOfProducts 122 = .ok (.invokestatic 20, 3) := by decide +kernel
theorem d_E_signOfProducts_125 : decode b_E_signOfProducts 125 = .ok (.ireturn, 1) := by decide +kernel
theorem d_E_signOfProducts_126 : decode b_E_signOfProducts 126 = .ok (.lload 14, 2) := by decide +kernel
theorem d_E_signOfProducts_128 : decode b_E_signOfProducts 128 = .ok (.lload 16, 2) := by decide +kernel
theorem d_E_signOfProducts_130 : decode b_E_signOfProducts 130 = .ok (.lor, 1) := by decide +kernel
theorem d_E_signOfProducts_131 : decode b_E_signOfProducts 131 = .ok (.ldc2_w 24, 3) := by decide +kernel
theorem d_E_signOfProducts_134 : decode b_E_signOfProducts 134 = .ok (.land, 1) := by decide +kernel
theorem d_E_signOfProducts_135 : decode b_E_signOfProducts 135 = .ok (.lconst 0, 1) := by decide +kernel
theorem d_E_signOfProducts_136 : decode b_E_signOfProducts 136 = .ok (.lcmp, 1) := by decide +kernel
theorem d_E_signOfProducts_137 : decode b_E_signOfProducts 137 = .ok (.ifCond .ne 7, 3) := by decide +kernel
theorem d_E_signOfProducts_140 : decode b_E_signOfProducts 140 = .ok (.iconst 0, 1) := by decide +kernel
theorem d_E_signOfProducts_141 : decode b_E_signOfProducts 141 = .ok (.goto 4, 3) := by decide +kernel
theorem d_E_signOfProducts_144 : decode b_E_signOfProducts 144 = .ok (.iconst 1, 1) := by decide +kernel
theorem d_E_signOfProducts_145 : decode b_E_signOfProducts 145 = .ok (.ireturn, 1) := by decide +kernel
theorem d_E_upper_0 : decode b_E_upper 0 = .ok (.lload_n 0, 1) := by decide +kernel
theorem d_E_upper_1 : decode b_E_upper 1 = .ok (.bipush 22, 2) := by decide +kernel
theorem d_E_upper_3 : decode b_E_upper 3 = .ok (.lshr, 1) := by decide +kernel
theorem d_E_upper_4 : decode b_E_upper 4 = .ok (.lreturn, 1) := by decide +kernel
theorem d_E_mixed_0 : decode b_E_mixed 0 = .ok (.lload_n 0, 1) := by decide +kernel
theorem d_E_mixed_1 : decode b_E_mixed 1 = .ok (.bipush 22, 2) := by decide +kernel
theorem d_E_mixed_3 : decode b_E_mixed 3 = .ok (.lshr, 1) := by decide +kernel
theorem d_E_mixed_4 : decode b_E_mixed 4 = .ok (.lload_n 2, 1) := by decide +kernel
theorem d_E_mixed_5 : decode b_E_mixed 5 = .ok (.ldc2_w 24, 3) := by decide +kernel
theorem d_E_mixed_8 : decode b_E_mixed 8 = .ok (.land, 1) := by decide +kernel
theorem d_E_mixed_9 : decode b_E_mixed 9 = .ok (.lmul, 1) := by decide +kernel
theorem d_E_mixed_10 : decode b_E_mixed 10 = .ok (.lload_n 0, 1) := by decide +kernel
theorem d_E_mixed_11 : decode b_E_mixed 11 = .ok (.ldc2_w 24, 3) := by decide +kernel
theorem d_E_mixed_14 : decode b_E_mixed 14 = .ok (.land, 1) := by decide +kernel
theorem d_E_mixed_15 : decode b_E_mixed 15 = .ok (.lload_n 2, 1) := by decide +kernel
theorem d_E_mixed_16 : decode b_E_mixed 16 = .ok (.bipush 22, 2) := by decide +kernel
theorem d_E_mixed_18 : decode b_E_mixed 18 = .ok (.lshr, 1) := by decide +kernel
theorem d_E_mixed_19 : decode b_E_mixed 19 = .ok (.lmul, 1) := by decide +kernel
theorem d_E_mixed_20 : decode b_E_mixed 20 = .ok (.ladd, 1) := by decide +kernel
theorem d_E_mixed_21 : decode b_E_mixed 21 = .ok (.lreturn, 1) := by decide +kernel
theorem d_E_lower_0 : decode b_E_lower 0 = .ok (.lload_n 0, 1) := by decide +kernel
theorem d_E_lower_1 : decode b_E_lower 1 = .ok (.ldc2_w 24, 3) := by decide +kernel
theorem d_E_lower_4 : decode b_E_lower 4 = .ok (.land, 1) := by decide +kernel
theorem d_E_lower_5 : decode b_E_lower 5 = .ok (.lreturn, 1) := by decide +kernel
theorem d_X_build_0 : decode b_X_build 0 = .ok (.aload_n 0, 1) := by decide +kernel
theorem d_X_build_1 : decode b_X_build 1 = .ok (.getfield 12, 3) := by decide +kernel
theorem d_X_build_4 : decode b_X_build 4 = .ok (.invokevirtual 91, 3) := by decide +kernel
theorem d_X_build_7 : decode b_X_build 7 = .ok (.aload_n 0, 1) := by decide +kernel
theorem d_X_build_8 : decode b_X_build 8 = .ok (.getfield 12, 3) := by decide +kernel
theorem d_X_build_11 : decode b_X_build 11 = .ok (.invokevirtual 94, 3) := by decide +kernel
theorem d_X_build_14 : decode b_X_build 14 = .ok (.aload_n 0, 1) := by decide +kernel
theorem d_X_build_15 : decode b_X_build 15 = .ok (.getfield 12, 3) := by decide +kernel
theorem d_X_build_18 : decode b_X_build 18 = .ok (.invokevirtual 97, 3) := by decide +kernel
theorem d_X_build_21 : decode b_X_build 21 = .ok (.aload_n 0, 1) := by decide +kernel
theorem d_X_build_22 : decode b_X_build 22 = .ok (.getfield 37, 3) := by decide +kernel
theorem d_X_build_25 : decode b_X_build 25 = .ok (.aload_n 0, 1) := by decide +kernel
theorem d_X_build_26 : decode b_X_build 26 = .ok (.getfield 12, 3) := by decide +kernel
theorem d_X_build_29 : decode b_X_build 29 = .ok (.invokevirtual 100, 3) := by decide +kernel
theorem d_X_build_32 : decode b_X_build 32 = .ok (.iload_n 1, 1) := by decide +kernel
theorem d_X_build_33 : decode b_X_build 33 = .ok (.ifCond .eq 18, 3) := by decide +kernel
theorem d_X_build_36 : decode b_X_build 36 = .ok (.aload_n 0, 1) := by decide +kernel
theorem d_X_build_37 : decode b_X_build 37 = .ok (.getfield 37, 3) := by decide +kernel
theorem d_X_build_40 : decode b_X_build 40 = .ok (.aload_n 0, 1) := by decide +kernel
theorem d_X_build_41 : decode b_X_build 41 = .ok (.getfield 20, 3) := by decide +kernel
theorem d_X_build_44 : decode b_X_build 44 = .ok (.aload_n 0, 1) := by decide +kernel
theorem d_X_build_45 : decode b_X_build 45 = .ok (.getfield 31, 3) := by decide +kernel
theorem d_X_build_48 : decode b_X_build 48 = .ok (.invokevirtual 104, 3) := by decide +kernel
theorem d_X_build_51 : decode b_X_build 51 = .ok (.iload_n 2, 1) := by decide +kernel
theorem d_X_build_52 : decode b_X_build 52 = .ok (.ifCond .eq 10, 3) := by decide +kernel
theorem d_X_build_55 : decode b_X_build 55 = .ok (.aload_n 0, 1) := by decide +kernel
theorem d_X_build_56 : decode b_X_build 56 = .ok (.getfield 37, 3) := by decide +kernel
theorem d_X_build_59 : decode b_X_build 59 = .ok (.invokevirtual 108, 3) := by decide +kernel
theorem d_X_build_62 : decode b_X_build 62 = .ok (.aload_n 0, 1) := by decide +kernel
theorem d_X_build_63 : decode b_X_build 63 = .ok (.getfield 37, 3) := by decide +kernel
theorem d_X_build_66 : decode b_X_build 66 = .ok (.invokevirtual 111, 3) := by decide +kernel
theorem d_X_build_69 : decode b_X_build 69 = .ok (.aload_n 0, 1) := by decide +kernel
theorem d_X_build_70 : decode b_X_build 70 = .ok (.getfield 37, 3) := by decide +kernel
theorem d_X_build_73 : decode b_X_build 73 = .ok (.invokevirtual 114, 3) := by decide +kernel
theorem d_X_build_76 : decode b_X_build 76 = .ok (.aload_n 0, 1) := by decide +kernel
theorem d_X_build_77 : decode b_X_build 77 = .ok (.getfield 37, 3) := by decide +kernel
theorem d_X_build_80 : decode b_X_build 80 = .ok (.getfield 117, 3) := by decide +kernel
theorem d_X_build_83 : decode b_X_build 83 = .ok (.ireturn, 1) := by decide +kernel
theorem d_F_drawSides_0 : decode b_F_drawSides 0 = .ok (.aload_n 0, 1) := by decide +kernel
theorem d_F_drawSides_1 : decode b_F_drawSides 1 = .ok (.getfield 27, 3) := by decide +kernel
theorem d_F_drawSides_4 : decode b_F_drawSides 4 = .ok (.invokevirtual 38, 3) := by decide +kernel
theorem d_F_drawSides_7 : decode b_F_drawSides 7 = .ok (.aload_n 0, 1) := by decide +kernel
theorem d_F_drawSides_8 : decode b_F_drawSides 8 = .ok (.getfield 27, 3) := by decide +kernel
theorem d_F_drawSides_11 : decode b_F_drawSides 11 = .ok (.aload_n 0, 1) := by decide +kernel
theorem d_F_drawSides_12 : decode b_F_drawSides 12 = .ok (.getfield 23, 3) := by decide +kernel
theorem d_F_drawSides_15 : decode b_F_drawSides 15 = .ok (.invokevirtual 41, 3) := by decide +kernel
theorem d_F_drawSides_18 : decode b_F_drawSides 18 = .ok (.iconst 0, 1) := by decide +kernel
theorem d_F_drawSides_19 : decode b_F_drawSides 19 = .ok (.istore_n 1, 1) := by decide +kernel
theorem d_F_drawSides_20 : decode b_F_drawSides 20 = .ok (.iload_n 1, 1) := by decide +kernel
theorem d_F_drawSides_21 : decode b_F_drawSides 21 = .ok (.aload_n 0, 1) := by decide +kernel
theorem d_F_drawSides_22 : decode b_F_drawSides 22 = .ok (.getfield 14, 3) := by decide +kernel
theorem d_F_drawSides_25 : decode b_F_drawSides 25 = .ok (.getfield 45, 3) := by decide +kernel
theorem d_F_drawSides_28 : decode b_F_drawSides 28 = .ok (.if_icmp .ge 48, 3) := by decide +kernel
theorem d_F_drawSides_31 : decode b_F_drawSides 31 = .ok (.iload_n 1, 1) := by decide +kernel
theorem d_F_drawSides_32 : decode b_F_drawSides 32 = .ok (.iconst 1, 1) := by decide +kernel
theorem d_F_drawSides_33 : decode b_F_drawSides 33 = .ok (.iadd, 1) := by decide +kernel
theorem d_F_drawSides_34 : decode b_F_drawSides 34 = .ok (.istore_n 2, 1) := by decide +kernel
theorem d_F_drawSides_35 : decode b_F_drawSides 35 = .ok (.iload_n 2, 1) := by decide +kernel
theorem d_F_drawSides_36 : decode b_F_drawSides 36 = .ok (.aload_n 0, 1) := by decide +kernel
theorem d_F_drawSides_37 : decode b_F_drawSides 37 = .ok (.getfield 14, 3) := by decide +kernel
theorem d_F_drawSides_40 : decode b_F_drawSides 40 = .ok (.getfield 45, 3) := by decide +kernel
theorem d_F_drawSides_43 : decode b_F_drawSides 43 = .ok (.if_icmp .ge 27, 3) := by decide +kernel
theorem d_F_drawSides_46 : decode b_F_drawSides 46 = .ok (.aload_n 0, 1) := by decide +kernel
theorem d_F_drawSides_47 : decode b_F_drawSides 47 = .ok (.iload_n 1, 1) := by decide +kernel
theorem d_F_drawSides_48 : decode b_F_drawSides 48 = .ok (.iload_n 2, 1) := by decide +kernel
theorem d_F_drawSides_49 : decode b_F_drawSides 49 = .ok (.invokevirtual 49, 3) := by decide +kernel
theorem d_F_drawSides_52 : decode b_F_drawSides 52 = .ok (.ifCond .eq 12, 3) := by decide +kernel
theorem d_F_drawSides_55 : decode b_F_drawSides 55 = .ok (.aload_n 0, 1) := by decide +kernel
theorem d_F_drawSides_56 : decode b_F_drawSides 56 = .ok (.getfield 27, 3) := by decide +kernel
theorem d_F_drawSides_59 : decode b_F_drawSides 59 = .ok (.iload_n 1, 1) := by decide +kernel
theorem d_F_drawSides_60 : decode b_F_drawSides 60 = .ok (.iload_n 2, 1) := by decide +kernel
theorem d_F_drawSides_61 : decode b_F_drawSides 61 = .ok (.invokevirtual 53, 3) := by decide +kernel
theorem d_F_drawSides_64 : decode b_F_drawSides 64 = .ok (.iinc 2 1, 3) := by decide +kernel
theorem d_F_drawSides_67 : decode b_F_drawSides 67 = .ok (.goto (-32), 3) := by decide +kernel
theorem d_F_drawSides_70 : decode b_F_drawSides 70 = .ok (.iinc 1 1, 3) := by decide +kernel
theorem d_F_drawSides_73 : decode b_F_drawSides 73 = .ok (.goto (-53), 3) := by decide +kernel
theorem d_F_drawSides_76 : decode b_F_drawSides 76 = .ok (.return_, 1) := by decide +kernel
theorem d_L_clear_0 : decode b_L_clear 0 = .ok (.aload_n 0, 1) := by decide +kernel
theorem d_L_clear_1 : decode b_L_clear 1 = .ok (.getfield 18, 3) := by decide +kernel
theorem d_L_clear_4 : decode b_L_clear 4 = .ok (.iconst 0, 1) := by decide +kernel
theorem d_L_clear_5 : decode b_L_clear 5 = .ok (.invokestatic 25, 3) := by decide +kernel
theorem d_L_clear_8 : decode b_L_clear 8 = .ok (.aload_n 0, 1) := by decide +kernel
theorem d_L_clear_9 : decode b_L_clear 9 = .ok (.iconst 0, 1) := by decide +kernel
theorem d_L_clear_10 : decode b_L_clear 10 = .ok (.putfield 21, 3) := by decide +kernel
theorem d_L_clear_13 : decode b_L_clear 13 = .ok (.return_, 1) := by decide +kernel
theorem d_JA_fill_0 : decode b_JA_fill 0 = .ok (.iconst 0, 1) := by decide +kernel
theorem d_JA_fill_1 : decode b_JA_fill 1 = .ok (.istore_n 2, 1) := by decide +kernel
theorem d_JA_fill_2 : decode b_JA_fill 2 = .ok (.aload_n 0, 1) := by decide +kernel
theorem d_JA_fill_3 : decode b_JA_fill 3 = .ok (.arraylength, 1) := by decide +kernel
theorem d_JA_fill_4 : decode b_JA_fill 4 = .ok (.istore_n 3, 1) := by decide +kernel
theorem d_JA_fill_5 : decode b_JA_fill 5 = .ok (.iload_n 2, 1) := by decide +kernel
theorem d_JA_fill_6 : decode b_JA_fill 6 = .ok (.iload_n 3, 1) := by decide +kernel
theorem d_JA_fill_7 : decode b_JA_fill 7 = .ok (.if_icmp .ge 13, 3) := by decide +kernel
theorem d_JA_fill_10 : decode b_JA_fill 10 = .ok (.aload_n 0, 1) := by decide +kernel
theorem d_JA_fill_11 : decode b_JA_fill 11 = .ok (.iload_n 2, 1) := by decide +kernel
theorem d_JA_fill_12 : decode b_JA_fill 12 = .ok (.iload_n 1, 1) := by decide +kernel
theorem d_JA_fill_13 : decode b_JA_fill 13 = .ok (.iastore, 1) := by decide +kernel
theorem d_JA_fill_14 : decode b_JA_fill 14 = .ok (.iinc 2 1, 3) := by decide +kernel
theorem d_JA_fill_17 : decode b_JA_fill 17 = .ok (.goto (-12), 3) := by decide +kernel
theorem d_JA_fill_20 : decode b_JA_fill 20 = .ok (.return_, 1) := by decide +kernel
theorem d_L_addAll_0 : decode b_L_addAll 0 = .ok (.iconst 0, 1) := by decide +kernel
theorem d_L_addAll_1 : decode b_L_addAll 1 = .ok (.istore_n 2, 1) := by decide +kernel
theorem d_L_addAll_2 : decode b_L_addAll 2 = .ok (.iload_n 2, 1) := by decide +kernel
theorem d_L_addAll_3 : decode b_L_addAll 3 = .ok (.aload_n 1, 1) := by decide +kernel
theorem d_L_addAll_4 : decode b_L_addAll 4 = .ok (.getfield 21, 3) := by decide +kernel
theorem d_L_addAll_7 : decode b_L_addAll 7 = .ok (.if_icmp .ge 25, 3) := by decide +kernel
theorem d_L_addAll_10 : decode b_L_addAll 10 = .ok (.aload_n 0, 1) := by decide +kernel
theorem d_L_addAll_11 : decode b_L_addAll 11 = .ok (.aload_n 1, 1) := by decide +kernel
theorem d_L_addAll_12 : decode b_L_addAll 12 = .ok (.getfield 9, 3) := by decide +kernel
theorem d_L_addAll_15 : decode b_L_addAll 15 = .ok (.iload_n 2, 1) := by decide +kernel
theorem d_L_addAll_16 : decode b_L_addAll 16 = .ok (.iaload, 1) := by decide +kernel
theorem d_L_addAll_17 : decode b_L_addAll 17 = .ok (.aload_n 1, 1) := by decide +kernel
theorem d_L_addAll_18 : decode b_L_addAll 18 = .ok (.getfield 15, 3) := by decide +kernel
theorem d_L_addAll_21 : decode b_L_addAll 21 = .ok (.iload_n 2, 1) := by decide +kernel
theorem d_L_addAll_22 : decode b_L_addAll 22 = .ok (.iaload, 1) := by decide +kernel
theorem d_L_addAll_23 : decode b_L_addAll 23 = .ok (.invokevirtual 35, 3) := by decide +kernel
theorem d_L_addAll_26 : decode b_L_addAll 26 = .ok (.iinc 2 1, 3) := by decide +kernel
theorem d_L_addAll_29 : decode b_L_addAll 29 = .ok (.goto (-27), 3) := by decide +kernel
theorem d_L_addAll_32 : decode b_L_addAll 32 = .ok (.return_, 1) := by decide +kernel
theorem d_F_hasRoom_0 : decode b_F_hasRoom 0 = .ok (.aload_n 0, 1) := by decide +kernel
theorem d_F_hasRoom_1 : decode b_F_hasRoom 1 = .ok (.getfield 27, 3) := by decide +kernel
theorem d_F_hasRoom_4 : decode b_F_hasRoom 4 = .ok (.iload_n 1, 1) := by decide +kernel
theorem d_F_hasRoom_5 : decode b_F_hasRoom 5 = .ok (.iload_n 2, 1) := by decide +kernel
theorem d_F_hasRoom_6 : decode b_F_hasRoom 6 = .ok (.invokevirtual 57, 3) := by decide +kernel
theorem d_F_hasRoom_9 : decode b_F_hasRoom 9 = .ok (.ifCond .ne 35, 3) := by decide +kernel
theorem d_F_hasRoom_12 : decode b_F_hasRoom 12 = .ok (.aload_n 0, 1) := by decide +kernel
theorem d_F_hasRoom_13 : decode b_F_hasRoom 13 = .ok (.getfield 14, 3) := by decide +kernel
theorem d_F_hasRoom_16 : decode b_F_hasRoom 16 = .ok (.iload_n 1, 1) := by decide +kernel
theorem d_F_hasRoom_17 : decode b_F_hasRoom 17 = .ok (.iload_n 2, 1) := by decide +kernel
theorem d_F_hasRoom_18 : decode b_F_hasRoom 18 = .ok (.invokevirtual 60, 3) := by decide +kernel
theorem d_F_hasRoom_21 : decode b_F_hasRoom 21 = .ok (.ifCond .ne 23, 3) := by decide +kernel
theorem d_F_hasRoom_24 : decode b_F_hasRoom 24 = .ok (.aload_n 0, 1) := by decide +kernel
theorem d_F_hasRoom_25 : decode b_F_hasRoom 25 = .ok (.getfield 27, 3) := by decide +kernel
theorem d_F_hasRoom_28 : decode b_F_hasRoom 28 = .ok (.aload_n 0, 1) := by decide +kernel
theorem d_F_hasRoom_29 : decode b_F_hasRoom 29 = .ok (.getfield 14, 3) := by decide +kernel
theorem d_F_hasRoom_32 : decode b_F_hasRoom 32 = .ok (.iload_n 1, 1) := by decide +kernel
theorem d_F_hasRoom_33 : decode b_F_hasRoom 33 = .ok (.iload_n 2, 1) := by decide +kernel
theorem d_F_hasRoom_34 : decode b_F_hasRoom 34 = .ok (.invokevirtual 63, 3) := by decide +kernel
theorem d_F_hasRoom_37 : decode b_F_hasRoom 37 = .ok (.ifCond .ne 7, 3) := by decide +kernel
theorem d_F_hasRoom_40 : decode b_F_hasRoom 40 = .ok (.iconst 1, 1) := by decide +kernel
theorem d_F_hasRoom_41 : decode b_F_hasRoom 41 = .ok (.goto 4, 3) := by decide +kernel
theorem d_F_hasRoom_44 : decode b_F_hasRoom 44 = .ok (.iconst 0, 1) := by decide +kernel
theorem d_F_hasRoom_45 : decode b_F_hasRoom 45 = .ok (.ireturn, 1) := by decide +kernel
theorem d_F_findTriangles_0 : decode b_F_findTriangles 0 = .ok (.aload_n 0, 1) := by decide +kernel
theorem d_F_findTriangles_1 : decode b_F_findTriangles 1 = .ok (.getfield 30, 3) := by decide +kernel
theorem d_F_findTriangles_4 : decode b_F_findTriangles 4 = .ok (.iconst (-1), 1) := by decide +kernel
theorem d_F_findTriangles_5 : decode b_F_findTriangles 5 = .ok (.invokestatic 67, 3) := by decide +kernel
theorem d_F_findTriangles_8 : decode b_F_findTriangles 8 = .ok (.iconst 0, 1) := by decide +kernel
theorem d_F_findTriangles_9 : decode b_F_findTriangles 9 = .ok (.istore_n 1, 1) := by decide +kernel
theorem d_F_findTriangles_10 : decode b_F_findTriangles 10 = .ok (.iload_n 1, 1) := by decide +kernel
theorem d_F_findTriangles_11 : decode b_F_findTriangles 11 = .ok (.aload_n 0, 1) := by decide +kernel
theorem d_F_findTriangles_12 : decode b_F_findTriangles 12 = .ok (.getfield 14, 3) := by decide +kernel
theorem d_F_findTriangles_15 : decode b_F_findTriangles 15 = .ok (.getfield 45, 3) := by decide +kernel
theorem d_F_findTriangles_18 : decode b_F_findTriangles 18 = .ok (.if_icmp .ge 48, 3) := by decide +kernel
theorem d_F_findTriangles_21 : decode b_F_findTriangles 21 = .ok (.iload_n 1, 1) := by decide +kernel
theorem d_F_findTriangles_22 : decode b_F_findTriangles 22 = .ok (.iconst 1, 1) := by decide +kernel
theorem d_F_findTriangles_23 : decode b_F_findTriangles 23 = .ok (.iadd, 1) := by decide +kernel
theorem d_F_findTriangles_24 : decode b_F_findTriangles 24 = .ok (.istore_n 2, 1) := by decide +kernel
theorem d_F_findTriangles_25 : decode b_F_findTriangles 25 = .ok (.iload_n 2, 1) := by decide +kernel
theorem d_F_findTriangles_26 : decode b_F_findTriangles 26 = .ok (.aload_n 0, 1) := by decide +kernel
theorem d_F_findTriangles_27 : decode b_F_findTriangles 27 = .ok (.getfield 14, 3) := by decide +kernel
theorem d_F_findTriangles_30 : decode b_F_findTriangles 30 = .ok (.getfield 45, 3) := by decide +kernel
theorem d_F_findTriangles_33 : decode b_F_findTriangles 33 = .ok (.if_icmp .ge 27, 3) := by decide +kernel
theorem d_F_findTriangles_36 : decode b_F_findTriangles 36 = .ok (.aload_n 0, 1) := by decide +kernel
theorem d_F_findTriangles_37 : decode b_F_findTriangles 37 = .ok (.getfield 27, 3) := by decide +kernel
theorem d_F_findTriangles_40 : decode b_F_findTriangles 40 = .ok (.iload_n 1, 1) := by decide +kernel
theorem d_F_findTriangles_41 : decode b_F_findTriangles 41 = .ok (.iload_n 2, 1) := by decide +kernel
theorem d_F_findTriangles_42 : decode b_F_findTriangles 42 = .ok (.invokevirtual 57, 3) := by decide +kernel
theorem d_F_findTriangles_45 : decode b_F_findTriangles 45 = .ok (.ifCond .eq 9, 3) := by decide +kernel
theorem d_F_findTriangles_48 : decode b_F_findTriangles 48 = .ok (.aload_n 0, 1) := by decide +kernel
theorem d_F_findTriangles_49 : decode b_F_findTriangles 49 = .ok (.iload_n 1, 1) := by decide +kernel
theorem d_F_findTriangles_50 : decode b_F_findTriangles 50 = .ok (.iload_n 2, 1) := by decide +kernel
theorem d_F_findTriangles_51 : decode b_F_findTriangles 51 = .ok (.invokevirtual 73, 3) := by decide +kernel
theorem d_F_findTriangles_54 : decode b_F_findTriangles 54 = .ok (.iinc 2 1, 3) := by decide +kernel
theorem d_F_findTriangles_57 : decode b_F_findTriangles 57 = .ok (.goto (-32), 3) := by decide +kernel
theorem d_F_findTriangles_60 : decode b_F_findTriangles 60 = .ok (.iinc 1 1, 3) := by decide +kernel
theorem d_F_findTriangles_63 : decode b_F_findTriangles 63 = .ok (.goto (-53), 3) := by decide +kernel
theorem d_F_findTriangles_66 : decode b_F_findTriangles 66 = .ok (.return_, 1) := by decide +kernel
theorem d_F_findTrianglesAt_0 : decode b_F_findTrianglesAt 0 = .ok (.iload_n 2, 1) := by decide +kernel
theorem d_F_findTrianglesAt_1 : decode b_F_findTrianglesAt 1 = .ok (.iconst 1, 1) := by decide +kernel
theorem d_F_findTrianglesAt_2 : decode b_F_findTrianglesAt 2 = .ok (.iadd, 1) := by decide +kernel
theorem d_F_findTrianglesAt_3 : decode b_F_findTrianglesAt 3 = .ok (.istore_n 3, 1) := by decide +kernel
theorem d_F_findTrianglesAt_4 : decode b_F_findTrianglesAt 4 = .ok (.iload_n 3, 1) := by decide +kernel
theorem d_F_findTrianglesAt_5 : decode b_F_findTrianglesAt 5 = .ok (.aload_n 0, 1) := by decide +kernel
theorem d_F_findTrianglesAt_6 : decode b_F_findTrianglesAt 6 = .ok (.getfield 14, 3) := by decide +kernel
theorem d_F_findTrianglesAt_9 : decode b_F_findTrianglesAt 9 = .ok (.getfield 45, 3) := by decide +kernel
theorem d_F_findTrianglesAt_12 : decode b_F_findTrianglesAt 12 = .ok (.if_icmp .ge 63, 3) := by decide +kernel
theorem d_F_findTrianglesAt_15 : decode b_F_findTrianglesAt 15 = .ok (.aload_n 0, 1) := by decide +kernel
theorem d_F_findTrianglesAt_16 : decode b_F_findTrianglesAt 16 = .ok (.getfield 27, 3) := by decide +kernel
theorem d_F_findTrianglesAt_19 : decode b_F_findTrianglesAt 19 = .ok (.iload_n 1, 1) := by decide +kernel
theorem d_F_findTrianglesAt_20 : decode b_F_findTrianglesAt 20 = .ok (.iload_n 3, 1) := by decide +kernel
theorem d_F_findTrianglesAt_21 : decode b_F_findTrianglesAt 21 = .ok (.invokevirtual 57, 3) := by decide +kernel
theorem d_F_findTrianglesAt_24 : decode b_F_findTrianglesAt 24 = .ok (.ifCond .eq 45, 3) := by decide +kernel
theorem d_F_findTrianglesAt_27 : decode b_F_findTrianglesAt 27 = .ok (.aload_n 0, 1) := by decide +kernel
theorem d_F_findTrianglesAt_28 : decode b_F_findTrianglesAt 28 = .ok (.getfield 27, 3) := by decide +kernel
theorem d_F_findTrianglesAt_31 : decode b_F_findTrianglesAt 31 = .ok (.iload_n 2, 1) := by decide +kernel
theorem d_F_findTrianglesAt_32 : decode b_F_findTrianglesAt 32 = .ok (.iload_n 3, 1) := by decide +kernel
theorem d_F_findTrianglesAt_33 : decode b_F_findTrianglesAt 33 = .ok (.invokevirtual 57, 3) := by decide +kernel
theorem d_F_findTrianglesAt_36 : decode b_F_findTrianglesAt 36 = .ok (.ifCond .eq 33, 3) := by decide +kernel
theorem d_F_findTrianglesAt_39 : decode b_F_findTrianglesAt 39 = .ok (.aload_n 0, 1) := by decide +kernel
theorem d_F_findTrianglesAt_40 : decode b_F_findTrianglesAt 40 = .ok (.getfield 14, 3) := by decide +kernel
theorem d_F_findTrianglesAt_43 : decode b_F_findTrianglesAt 43 = .ok (.iload_n 1, 1) := by decide +kernel
theorem d_F_findTrianglesAt_44 : decode b_F_findTrianglesAt 44 = .ok (.iload_n 2, 1) := by decide +kernel
theorem d_F_findTrianglesAt_45 : decode b_F_findTrianglesAt 45 = .ok (.iload_n 3, 1) := by decide +kernel
theorem d_F_findTrianglesAt_46 : decode b_F_findTrianglesAt 46 = .ok (.invokevirtual 76, 3) := by decide +kernel
theorem d_F_findTrianglesAt_49 : decode b_F_findTrianglesAt 49 = .ok (.ifCond .le 13, 3) := by decide +kernel
theorem d_F_findTrianglesAt_52 : decode b_F_findTrianglesAt 52 = .ok (.aload_n 0, 1) := by decide +kernel
theorem d_F_findTrianglesAt_53 : decode b_F_findTrianglesAt 53 = .ok (.iload_n 1, 1) := by decide +kernel
theorem d_F_findTrianglesAt_54 : decode b_F_findTrianglesAt 54 = .ok (.iload_n 2, 1) := by decide +kernel
theorem d_F_findTrianglesAt_55 : decode b_F_findTrianglesAt 55 = .ok (.iload_n 3, 1) := by decide +kernel
theorem d_F_findTrianglesAt_56 : decode b_F_findTrianglesAt 56 = .ok (.invokevirtual 80, 3) := by decide +kernel
theorem d_F_findTrianglesAt_59 : decode b_F_findTrianglesAt 59 = .ok (.goto 10, 3) := by decide +kernel
theorem d_F_findTrianglesAt_62 : decode b_F_findTrianglesAt 62 = .ok (.aload_n 0, 1) := by decide +kernel
theorem d_F_findTrianglesAt_63 : decode b_F_findTrianglesAt 63 = .ok (.iload_n 1, 1) := by decide +kernel
theorem d_F_findTrianglesAt_64 : decode b_F_findTrianglesAt 64 = .ok (.iload_n 3, 1) := by decide +kernel
theorem d_F_findTrianglesAt_65 : decode b_F_findTrianglesAt 65 = .ok (.iload_n 2, 1) := by decide +kernel
theorem d_F_findTrianglesAt_66 : decode b_F_findTrianglesAt 66 = .ok (.invokevirtual 80, 3) := by decide +kernel
theorem d_F_findTrianglesAt_69 : decode b_F_findTrianglesAt 69 = .ok (.iinc 3 1, 3) := by decide +kernel
theorem d_F_findTrianglesAt_72 : decode b_F_findTrianglesAt 72 = .ok (.goto (-68), 3) := by decide +kernel
theorem d_F_findTrianglesAt_75 : decode b_F_findTrianglesAt 75 = .ok (.return_, 1) := by decide +kernel
theorem d_F_setIfEmpty_0 : decode b_F_setIfEmpty 0 = .ok (.aload_n 0, 1) := by decide +kernel
theorem d_F_setIfEmpty_1 : decode b_F_setIfEmpty 1 = .ok (.getfield 14, 3) := by decide +kernel
theorem d_F_setIfEmpty_4 : decode b_F_setIfEmpty 4 = .ok (.iload_n 1, 1) := by decide +kernel
theorem d_F_setIfEmpty_5 : decode b_F_setIfEmpty 5 = .ok (.iload_n 2, 1) := by decide +kernel
theorem d_F_setIfEmpty_6 : decode b_F_setIfEmpty 6 = .ok (.iload_n 3, 1) := by decide +kernel
theorem d_F_setIfEmpty_7 : decode b_F_setIfEmpty 7 = .ok (.invokevirtual 83, 3) := by decide +kernel
theorem d_F_setIfEmpty_10 : decode b_F_setIfEmpty 10 = .ok (.ifCond .ne 10, 3) := by decide +kernel
theorem d_F_setIfEmpty_13 : decode b_F_setIfEmpty 13 = .ok (.aload_n 0, 1) := by decide +kernel
theorem d_F_setIfEmpty_14 : decode b_F_setIfEmpty 14 = .ok (.iload_n 1, 1) := by decide +kernel
theorem d_F_setIfEmpty_15 : decode b_F_setIfEmpty 15 = .ok (.iload_n 2, 1) := by decide +kernel
theorem d_F_setIfEmpty_16 : decode b_F_setIfEmpty 16 = .ok (.iload_n 3, 1) := by decide +kernel
theorem d_F_setIfEmpty_17 : decode b_F_setIfEmpty 17 = .ok (.invokevirtual 87, 3) := by decide +kernel
theorem d_F_setIfEmpty_20 : decode b_F_setIfEmpty 20 = .ok (.return_, 1) := by decide +kernel
theorem d_P_anyInside_0 : decode b_P_anyInside 0 = .ok (.iconst 0, 1) := by decide +kernel
theorem d_P_anyInside_1 : decode b_P_anyInside 1 = .ok (.istore 4, 2) := by decide +kernel
theorem d_P_anyInside_3 : decode b_P_anyInside 3 = .ok (.iload 4, 2) := by decide +kernel
theorem d_P_anyInside_5 : decode b_P_anyInside 5 = .ok (.aload_n 0, 1) := by decide +kernel
theorem d_P_anyInside_6 : decode b_P_anyInside 6 = .ok (.getfield 18, 3) := by decide +kernel
theorem d_P_anyInside_9 : decode b_P_anyInside 9 = .ok (.if_icmp .ge 44, 3) := by decide +kernel
theorem d_P_anyInside_12 : decode b_P_anyInside 12 = .ok (.aload_n 0, 1) := by decide +kernel
theorem d_P_anyInside_13 : decode b_P_anyInside 13 = .ok (.iload_n 1, 1) := by decide +kernel
theorem d_P_anyInside_14 : decode b_P_anyInside 14 = .ok (.iload_n 2, 1) := by decide +kernel
theorem d_P_anyInside_15 : decode b_P_anyInside 15 = .ok (.iload 4, 2) := by decide +kernel
theorem d_P_anyInside_17 : decode b_P_anyInside 17 = .ok (.invokevirtual 57, 3) := by decide +kernel
theorem d_P_anyInside_20 : decode b_P_anyInside 20 = .ok (.ifCond .le 27, 3) := by decide +kernel
theorem d_P_anyInside_23 : decode b_P_anyInside 23 = .ok (.aload_n 0, 1) := by decide +kernel
theorem d_P_anyInside_24 : decode b_P_anyInside 24 = .ok (.iload_n 2, 1) := by decide +kernel
theorem d_P_anyInside_25 : decode b_P_anyInside 25 = .ok (.iload_n 3, 1) := by decide +kernel
theorem d_P_anyInside_26 : decode b_P_anyInside 26 = .ok (.iload 4, 2) := by decide +kernel
theorem d_P_anyInside_28 : decode b_P_anyInside 28 = .ok (.invokevirtual 57, 3) := by decide +kernel
theorem d_P_anyInside_31 : decode b_P_anyInside 31 = .ok (.ifCond .le 16, 3) := by decide +kernel
theorem d_P_anyInside_34 : decode b_P_anyInside 34 = .ok (.aload_n 0, 1) := by decide +kernel
theorem d_P_anyInside_35 : decode b_P_anyInside 35 = .ok (.iload_n 3, 1) := by decide +kernel
theorem d_P_anyInside_36 : decode b_P_anyInside 36 = .ok (.iload_n 1, 1) := by decide +kernel
theorem d_P_anyInside_37 : decode b_P_anyInside 37 = .ok (.iload 4, 2) := by decide +kernel
theorem d_P_anyInside_39 : decode b_P_anyInside 39 = .ok (.invokevirtual 57, 3) := by decide +kernel
theorem d_P_anyInside_42 : decode b_P_anyInside 42 = .ok (.ifCond .le 5, 3) := by decide +kernel
theorem d_P_anyInside_45 : decode b_P_anyInside 45 = .ok (.iconst 1, 1) := by decide +kernel
theorem d_P_anyInside_46 : decode b_P_anyInside 46 = .ok (.ireturn, 1) := by decide +kernel
theorem d_P_anyInside_47 : decode b_P_anyInside 47 = .ok (.iinc 4 1, 3) := by decide +kernel
theorem d_P_anyInside_50 : decode b_P_anyInside 50 = .ok (.goto (-47), 3) := by decide +kernel
theorem d_P_anyInside_53 : decode b_P_anyInside 53 = .ok (.iconst 0, 1) := by decide +kernel
theorem d_P_anyInside_54 : decode b_P_anyInside 54 = .ok (.ireturn, 1) := by decide +kernel
theorem d_F_setTriangle_0 : decode b_F_setTriangle 0 = .ok (.aload_n 0, 1) := by decide +kernel
theorem d_F_setTriangle_1 : decode b_F_setTriangle 1 = .ok (.iload_n 1, 1) := by decide +kernel
theorem d_F_setTriangle_2 : decode b_F_setTriangle 2 = .ok (.iload_n 2, 1) := by decide +kernel
theorem d_F_setTriangle_3 : decode b_F_setTriangle 3 = .ok (.iload_n 3, 1) := by decide +kernel
theorem d_F_setTriangle_4 : decode b_F_setTriangle 4 = .ok (.invokevirtual 34, 3) := by decide +kernel
theorem d_F_setTriangle_7 : decode b_F_setTriangle 7 = .ok (.aload_n 0, 1) := by decide +kernel
theorem d_F_setTriangle_8 : decode b_F_setTriangle 8 = .ok (.iload_n 2, 1) := by decide +kernel
theorem d_F_setTriangle_9 : decode b_F_setTriangle 9 = .ok (.iload_n 3, 1) := by decide +kernel
theorem d_F_setTriangle_10 : decode b_F_setTriangle 10 = .ok (.iload_n 1, 1) := by decide +kernel
theorem d_F_setTriangle_11 : decode b_F_setTriangle 11 = .ok (.invokevirtual 34, 3) := by decide +kernel
theorem d_F_setTriangle_14 : decode b_F_setTriangle 14 = .ok (.aload_n 0, 1) := by decide +kernel
theorem d_F_setTriangle_15 : decode b_F_setTriangle 15 = .ok (.iload_n 3, 1) := by decide +kernel
theorem d_F_setTriangle_16 : decode b_F_setTriangle 16 = .ok (.iload_n 1, 1) := by decide +kernel
theorem d_F_setTriangle_17 : decode b_F_setTriangle 17 = .ok (.iload_n 2, 1) := by decide +kernel
theorem d_F_setTriangle_18 : decode b_F_setTriangle 18 = .ok (.invokevirtual 34, 3) := by decide +kernel
theorem d_F_setTriangle_21 : decode b_F_setTriangle 21 = .ok (.return_, 1) := by decide +kernel
theorem d_F_setThird_0 : decode b_F_setThird 0 = .ok (.aload_n 0, 1) := by decide +kernel
theorem d_F_setThird_1 : decode b_F_setThird 1 = .ok (.getfield 30, 3) := by decide +kernel
theorem d_F_setThird_4 : decode b_F_setThird 4 = .ok (.iload_n 1, 1) := by decide +kernel
theorem d_F_setThird_5 : decode b_F_setThird 5 = .ok (.bipush 12, 2) := by decide +kernel
theorem d_F_setThird_7 : decode b_F_setThird 7 = .ok (.imul, 1) := by decide +kernel
theorem d_F_setThird_8 : decode b_F_setThird 8 = .ok (.iload_n 2, 1) := by decide +kernel
theorem d_F_setThird_9 : decode b_F_setThird 9 = .ok (.iadd, 1) := by decide +kernel
theorem d_F_setThird_10 : decode b_F_setThird 10 = .ok (.iload_n 3, 1) := by decide +kernel
theorem d_F_setThird_11 : decode b_F_setThird 11 = .ok (.iastore, 1) := by decide +kernel
theorem d_F_setThird_12 : decode b_F_setThird 12 = .ok (.return_, 1) := by decide +kernel
theorem d_F_makeSidesGood_0 : decode b_F_makeSidesGood 0 = .ok (.iconst 1, 1) := by decide +kernel
theorem d_F_makeSidesGood_1 : decode b_F_makeSidesGood 1 = .ok (.istore_n 1, 1) := by decide +kernel
theorem d_F_makeSidesGood_2 : decode b_F_makeSidesGood 2 = .ok (.iconst 0, 1) := by decide +kernel
theorem d_F_makeSidesGood_3 : decode b_F_makeSidesGood 3 = .ok (.istore_n 2, 1) := by decide +kernel
theorem d_F_makeSidesGood_4 : decode b_F_makeSidesGood 4 = .ok (.iload_n 1, 1) := by decide +kernel
theorem d_F_makeSidesGood_5 : decode b_F_makeSidesGood 5 = .ok (.ifCond .eq 21, 3) := by decide +kernel
theorem d_F_makeSidesGood_8 : decode b_F_makeSidesGood 8 = .ok (.iload_n 2, 1) := by decide +kernel
theorem d_F_makeSidesGood_9 : decode b_F_makeSidesGood 9 = .ok (.sipush 1000, 3) := by decide +kernel
theorem d_F_makeSidesGood_12 : decode b_F_makeSidesGood 12 = .ok (.if_icmp .ge 14, 3) := by decide +kernel
theorem d_F_makeSidesGood_15 : decode b_F_makeSidesGood 15 = .ok (.aload_n 0, 1) := by decide +kernel
theorem d_F_makeSidesGood_16 : decode b_F_makeSidesGood 16 = .ok (.invokevirtual 90, 3) := by decide +kernel
theorem d_F_makeSidesGood_19 : decode b_F_makeSidesGood 19 = .ok (.istore_n 1, 1) := by decide +kernel
theorem d_F_makeSidesGood_20 : decode b_F_makeSidesGood 20 = .ok (.iinc 2 1, 3) := by decide +kernel
theorem d_F_makeSidesGood_23 : decode b_F_makeSidesGood 23 = .ok (.goto (-19), 3) := by decide +kernel
theorem d_F_makeSidesGood_26 : decode b_F_makeSidesGood 26 = .ok (.return_, 1) := by decide +kernel
theorem d_F_flipBadSides_0 : decode b_F_flipBadSides 0 = .ok (.iconst 0, 1) := by decide +kernel
theorem d_F_flipBadSides_1 : decode b_F_flipBadSides 1 = .ok (.istore_n 1, 1) := by decide +kernel
theorem d_F_flipBadSides_2 : decode b_F_flipBadSides 2 = .ok (.iconst 0, 1) := by decide +kernel
theorem d_F_flipBadSides_3 : decode b_F_flipBadSides 3 = .ok (.istore_n 2, 1) := by decide +kernel
theorem d_F_flipBadSides_4 : decode b_F_flipBadSides 4 = .ok (.iload_n 2, 1) := by decide +kernel
theorem d_F_flipBadSides_5 : decode b_F_flipBadSides 5 = .ok (.aload_n 0, 1) := by decide +kernel
theorem d_F_flipBadSides_6 : decode b_F_flipBadSides 6 = .ok (.getfield 14, 3) := by decide +kernel
theorem d_F_flipBadSides_9 : decode b_F_flipBadSides 9 = .ok (.getfield 45, 3) := by decide +kernel
theorem d_F_flipBadSides_12 : decode b_F_flipBadSides 12 = .ok (.if_icmp .ge 47, 3) := by decide +kernel
theorem d_F_flipBadSides_15 : decode b_F_flipBadSides 15 = .ok (.iload_n 2, 1) := by decide +kernel
theorem d_F_flipBadSides_16 : decode b_F_flipBadSides 16 = .ok (.iconst 1, 1) := by decide +kernel
theorem d_F_flipBadSides_17 : decode b_F_flipBadSides 17 = .ok (.iadd, 1) := by decide +kernel
theorem d_F_flipBadSides_18 : decode b_F_flipBadSides 18 = .ok (.istore_n 3, 1) := by decide +kernel
theorem d_F_flipBadSides_19 : decode b_F_flipBadSides 19 = .ok (.iload_n 3, 1) := by decide +kernel
theorem d_F_flipBadSides_20 : decode b_F_flipBadSides 20 = .ok (.aload_n 0, 1) := by decide +kernel
theorem d_F_flipBadSides_21 : decode b_F_flipBadSides 21 = .ok (.getfield 14, 3) := by decide +kernel
theorem d_F_flipBadSides_24 : decode b_F_flipBadSides 24 = .ok (.getfield 45, 3) := by decide +kernel
theorem d_F_flipBadSides_27 : decode b_F_flipBadSides 27 = .ok (.if_icmp .ge 26, 3) := by decide +kernel
theorem d_F_flipBadSides_30 : decode b_F_flipBadSides 30 = .ok (.aload_n 0, 1) := by decide +kernel
theorem d_F_flipBadSides_31 : decode b_F_flipBadSides 31 = .ok (.iload_n 2, 1) := by decide +kernel
theorem d_F_flipBadSides_32 : decode b_F_flipBadSides 32 = .ok (.iload_n 3, 1) := by decide +kernel
theorem d_F_flipBadSides_33 : decode b_F_flipBadSides 33 = .ok (.invokevirtual 94, 3) := by decide +kernel
theorem d_F_flipBadSides_36 : decode b_F_flipBadSides 36 = .ok (.ifCond .eq 11, 3) := by decide +kernel
theorem d_F_flipBadSides_39 : decode b_F_flipBadSides 39 = .ok (.aload_n 0, 1) := by decide +kernel
theorem d_F_flipBadSides_40 : decode b_F_flipBadSides 40 = .ok (.iload_n 2, 1) := by decide +kernel
theorem d_F_flipBadSides_41 : decode b_F_flipBadSides 41 = .ok (.iload_n 3, 1) := by decide +kernel
theorem d_F_flipBadSides_42 : decode b_F_flipBadSides 42 = .ok (.invokevirtual 97, 3) := by decide +kernel
theorem d_F_flipBadSides_45 : decode b_F_flipBadSides 45 = .ok (.iconst 1, 1) := by decide +kernel
theorem d_F_flipBadSides_46 : decode b_F_flipBadSides 46 = .ok (.istore_n 1, 1) := by decide +kernel
theorem d_F_flipBadSides_47 : decode b_F_flipBadSides 47 = .ok (.iinc 3 1, 3) := by decide +kernel
theorem d_F_flipBadSides_50 : decode b_F_flipBadSides 50 = .ok (.goto (-31), 3) := by decide +kernel
theorem d_F_flipBadSides_53 : decode b_F_flipBadSides 53 = .ok (.iinc 2 1, 3) := by decide +kernel
theorem d_F_flipBadSides_56 : decode b_F_flipBadSides 56 = .ok (.goto (-52), 3) := by decide +kernel
theorem d_F_flipBadSides_59 : decode b_F_flipBadSides 59 = .ok (.iload_n 1, 1) := by decide +kernel
theorem d_F_flipBadSides_60 : decode b_F_flipBadSides 60 = .ok (.ireturn, 1) := by decide +kernel
theorem d_F_isBad_0 : decode b_F_isBad 0 = .ok (.aload_n 0, 1) := by decide +kernel
theorem d_F_isBad_1 : decode b_F_isBad 1 = .ok (.iload_n 1, 1) := by decide +kernel
theorem d_F_isBad_2 : decode b_F_isBad 2 = .ok (.iload_n 2, 1) := by decide +kernel
theorem d_F_isBad_3 : decode b_F_isBad 3 = .ok (.invokevirtual 100, 3) := by decide +kernel
theorem d_F_isBad_6 : decode b_F_isBad 6 = .ok (.istore_n 3, 1) := by decide +kernel
theorem d_F_isBad_7 : decode b_F_isBad 7 = .ok (.aload_n 0, 1) := by decide +kernel
theorem d_F_isBad_8 : decode b_F_isBad 8 = .ok (.iload_n 2, 1) := by decide +kernel
theorem d_F_isBad_9 : decode b_F_isBad 9 = .ok (.iload_n 1, 1) := by decide +kernel
theorem d_F_isBad_10 : decode b_F_isBad 10 = .ok (.invokevirtual 100, 3) := by decide +kernel
theorem d_F_isBad_13 : decode b_F_isBad 13 = .ok (.istore 4, 2) := by decide +kernel
theorem d_F_isBad_15 : decode b_F_isBad 15 = .ok (.iload_n 3, 1) := by decide +kernel
theorem d_F_isBad_16 : decode b_F_isBad 16 = .ok (.iconst (-1), 1) := by decide +kernel
theorem d_F_isBad_17 : decode b_F_isBad 17 = .ok (.if_icmp .eq 21, 3) := by decide +kernel
theorem d_F_isBad_20 : decode b_F_isBad 20 = .ok (.iload 4, 2) := by decide +kernel
theorem d_F_isBad_22 : decode b_F_isBad 22 = .ok (.iconst (-1), 1) := by decide +kernel
theorem d_F_isBad_23 : decode b_F_isBad 23 = .ok (.if_icmp .eq 15, 3) := by decide +kernel
theorem d_F_isBad_26 : decode b_F_isBad 26 = .ok (.aload_n 0, 1) := by decide +kernel
theorem d_F_isBad_27 : decode b_F_isBad 27 = .ok (.getfield 23, 3) := by decide +kernel
theorem d_F_isBad_30 : decode b_F_isBad 30 = .ok (.iload_n 1, 1) := by decide +kernel
theorem d_F_isBad_31 : decode b_F_isBad 31 = .ok (.iload_n 2, 1) := by decide +kernel
theorem d_F_isBad_32 : decode b_F_isBad 32 = .ok (.invokevirtual 57, 3) := by decide +kernel
theorem d_F_isBad_35 : decode b_F_isBad 35 = .ok (.ifCond .eq 5, 3) := by decide +kernel
theorem d_F_isBad_38 : decode b_F_isBad 38 = .ok (.iconst 0, 1) := by decide +kernel
theorem d_F_isBad_39 : decode b_F_isBad 39 = .ok (.ireturn, 1) := by decide +kernel
theorem d_F_isBad_40 : decode b_F_isBad 40 = .ok (.aload_n 0, 1) := by decide +kernel
theorem d_F_isBad_41 : decode b_F_isBad 41 = .ok (.getfield 14, 3) := by decide +kernel
theorem d_F_isBad_44 : decode b_F_isBad 44 = .ok (.iload_n 1, 1) := by decide +kernel
theorem d_F_isBad_45 : decode b_F_isBad 45 = .ok (.iload_n 2, 1) := by decide +kernel
theorem d_F_isBad_46 : decode b_F_isBad 46 = .ok (.iload_n 3, 1) := by decide +kernel
theorem d_F_isBad_47 : decode b_F_isBad 47 = .ok (.iload 4, 2) := by decide +kernel
theorem d_F_isBad_49 : decode b_F_isBad 49 = .ok (.invokevirtual 104, 3) := by decide +kernel
theorem d_F_isBad_52 : decode b_F_isBad 52 = .ok (.istore 5, 2) := by decide +kernel
theorem d_F_isBad_54 : decode b_F_isBad 54 = .ok (.iload 5, 2) := by decide +kernel
theorem d_F_isBad_56 : decode b_F_isBad 56 = .ok (.ifCond .gt 22, 3) := by decide +kernel
theorem d_F_isBad_59 : decode b_F_isBad 59 = .ok (.iload 5, 2) := by decide +kernel
theorem d_F_isBad_61 : decode b_F_isBad 61 = .ok (.ifCond .ne 21, 3) := by decide +kernel
theorem d_F_isBad_64 : decode b_F_isBad 64 = .ok (.iload_n 3, 1) := by decide +kernel
theorem d_F_isBad_65 : decode b_F_isBad 65 = .ok (.iload 4, 2) := by decide +kernel
theorem d_F_isBad_67 : decode b_F_isBad 67 = .ok (.invokestatic 108, 3) := by decide +kernel
theorem d_F_isBad_70 : decode b_F_isBad 70 = .ok (.iload_n 1, 1) := by decide +kernel
theorem d_F_isBad_71 : decode b_F_isBad 71 = .ok (.iload_n 2, 1) := by decide +kernel
theorem d_F_isBad_72 : decode b_F_isBad 72 = .ok (.invokestatic 108, 3) := by decide +kernel
theorem d_F_isBad_75 : decode b_F_isBad 75 = .ok (.if_icmp .ge 7, 3) := by decide +kernel
theorem d_F_isBad_78 : decode b_F_isBad 78 = .ok (.iconst 1, 1) := by decide +kernel
theorem d_F_isBad_79 : decode b_F_isBad 79 = .ok (.goto 4, 3) := by decide +kernel
theorem d_F_isBad_82 : decode b_F_isBad 82 = .ok (.iconst 0, 1) := by decide +kernel
theorem d_F_isBad_83 : decode b_F_isBad 83 = .ok (.ireturn, 1) := by decide +kernel
theorem d_F_thirdOf_0 : decode b_F_thirdOf 0 = .ok (.aload_n 0, 1) := by decide +kernel
theorem d_F_thirdOf_1 : decode b_F_thirdOf 1 = .ok (.getfield 30, 3) := by decide +kernel
theorem d_F_thirdOf_4 : decode b_F_thirdOf 4 = .ok (.iload_n 1, 1) := by decide +kernel
theorem d_F_thirdOf_5 : decode b_F_thirdOf 5 = .ok (.bipush 12, 2) := by decide +kernel
theorem d_F_thirdOf_7 : decode b_F_thirdOf 7 = .ok (.imul, 1) := by decide +kernel
theorem d_F_thirdOf_8 : decode b_F_thirdOf 8 = .ok (.iload_n 2, 1) := by decide +kernel
theorem d_F_thirdOf_9 : decode b_F_thirdOf 9 = .ok (.iadd, 1) := by decide +kernel
theorem d_F_thirdOf_10 : decode b_F_thirdOf 10 = .ok (.iaload, 1) := by decide +kernel
theorem d_F_thirdOf_11 : decode b_F_thirdOf 11 = .ok (.ireturn, 1) := by decide +kernel
theorem d_F_flip_0 : decode b_F_flip 0 = .ok (.aload_n 0, 1) := by decide +kernel
theorem d_F_flip_1 : decode b_F_flip 1 = .ok (.iload_n 1, 1) := by decide +kernel
theorem d_F_flip_2 : decode b_F_flip 2 = .ok (.iload_n 2, 1) := by decide +kernel
theorem d_F_flip_3 : decode b_F_flip 3 = .ok (.invokevirtual 100, 3) := by decide +kernel
theorem d_F_flip_6 : decode b_F_flip 6 = .ok (.istore_n 3, 1) := by decide +kernel
theorem d_F_flip_7 : decode b_F_flip 7 = .ok (.aload_n 0, 1) := by decide +kernel
theorem d_F_flip_8 : decode b_F_flip 8 = .ok (.iload_n 2, 1) := by decide +kernel
theorem d_F_flip_9 : decode b_F_flip 9 = .ok (.iload_n 1, 1) := by decide +kernel
theorem d_F_flip_10 : decode b_F_flip 10 = .ok (.invokevirtual 100, 3) := by decide +kernel
theorem d_F_flip_13 : decode b_F_flip 13 = .ok (.istore 4, 2) := by decide +kernel
theorem d_F_flip_15 : decode b_F_flip 15 = .ok (.aload_n 0, 1) := by decide +kernel
theorem d_F_flip_16 : decode b_F_flip 16 = .ok (.iload_n 1, 1) := by decide +kernel
theorem d_F_flip_17 : decode b_F_flip 17 = .ok (.iload_n 2, 1) := by decide +kernel
theorem d_F_flip_18 : decode b_F_flip 18 = .ok (.iconst (-1), 1) := by decide +kernel
theorem d_F_flip_19 : decode b_F_flip 19 = .ok (.invokevirtual 34, 3) := by decide +kernel
theorem d_F_flip_22 : decode b_F_flip 22 = .ok (.aload_n 0, 1) := by decide +kernel
theorem d_F_flip_23 : decode b_F_flip 23 = .ok (.iload_n 2, 1) := by decide +kernel
