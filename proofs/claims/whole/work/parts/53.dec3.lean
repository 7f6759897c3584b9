theorem d_F_flip_24 : decode b_F_flip 24 = .ok (.iload_n 1, 1) := by decide +kernel
theorem d_F_flip_25 : decode b_F_flip 25 = .ok (.iconst (-1), 1) := by decide +kernel
theorem d_F_flip_26 : decode b_F_flip 26 = .ok (.invokevirtual 34, 3) := by decide +kernel
theorem d_F_flip_29 : decode b_F_flip 29 = .ok (.aload_n 0, 1) := by decide +kernel
theorem d_F_flip_30 : decode b_F_flip 30 = .ok (.iload_n 1, 1) := by decide +kernel
theorem d_F_flip_31 : decode b_F_flip 31 = .ok (.iload 4, 2) := by decide +kernel
theorem d_F_flip_33 : decode b_F_flip 33 = .ok (.iload_n 3, 1) := by decide +kernel
theorem d_F_flip_34 : decode b_F_flip 34 = .ok (.invokevirtual 87, 3) := by decide +kernel
theorem d_F_flip_37 : decode b_F_flip 37 = .ok (.aload_n 0, 1) := by decide +kernel
theorem d_F_flip_38 : decode b_F_flip 38 = .ok (.iload 4, 2) := by decide +kernel
theorem d_F_flip_40 : decode b_F_flip 40 = .ok (.iload_n 2, 1) := by decide +kernel
theorem d_F_flip_41 : decode b_F_flip 41 = .ok (.iload_n 3, 1) := by decide +kernel
theorem d_F_flip_42 : decode b_F_flip 42 = .ok (.invokevirtual 87, 3) := by decide +kernel
theorem d_F_flip_45 : decode b_F_flip 45 = .ok (.return_, 1) := by decide +kernel
theorem d_M_copyFrom_0 : decode b_M_copyFrom 0 = .ok (.aload_n 1, 1) := by decide +kernel
theorem d_M_copyFrom_1 : decode b_M_copyFrom 1 = .ok (.getfield 51, 3) := by decide +kernel
theorem d_M_copyFrom_4 : decode b_M_copyFrom 4 = .ok (.getfield 57, 3) := by decide +kernel
theorem d_M_copyFrom_7 : decode b_M_copyFrom 7 = .ok (.iconst 0, 1) := by decide +kernel
theorem d_M_copyFrom_8 : decode b_M_copyFrom 8 = .ok (.aload_n 0, 1) := by decide +kernel
theorem d_M_copyFrom_9 : decode b_M_copyFrom 9 = .ok (.getfield 22, 3) := by decide +kernel
theorem d_M_copyFrom_12 : decode b_M_copyFrom 12 = .ok (.iconst 0, 1) := by decide +kernel
theorem d_M_copyFrom_13 : decode b_M_copyFrom 13 = .ok (.bipush 12, 2) := by decide +kernel
theorem d_M_copyFrom_15 : decode b_M_copyFrom 15 = .ok (.invokestatic 62, 3) := by decide +kernel
theorem d_M_copyFrom_18 : decode b_M_copyFrom 18 = .ok (.aload_n 0, 1) := by decide +kernel
theorem d_M_copyFrom_19 : decode b_M_copyFrom 19 = .ok (.invokevirtual 68, 3) := by decide +kernel
theorem d_M_copyFrom_22 : decode b_M_copyFrom 22 = .ok (.iconst 0, 1) := by decide +kernel
theorem d_M_copyFrom_23 : decode b_M_copyFrom 23 = .ok (.istore_n 2, 1) := by decide +kernel
theorem d_M_copyFrom_24 : decode b_M_copyFrom 24 = .ok (.iload_n 2, 1) := by decide +kernel
theorem d_M_copyFrom_25 : decode b_M_copyFrom 25 = .ok (.aload_n 1, 1) := by decide +kernel
theorem d_M_copyFrom_26 : decode b_M_copyFrom 26 = .ok (.getfield 71, 3) := by decide +kernel
theorem d_M_copyFrom_29 : decode b_M_copyFrom 29 = .ok (.getfield 75, 3) := by decide +kernel
theorem d_M_copyFrom_32 : decode b_M_copyFrom 32 = .ok (.if_icmp .ge 52, 3) := by decide +kernel
theorem d_M_copyFrom_35 : decode b_M_copyFrom 35 = .ok (.iload_n 2, 1) := by decide +kernel
theorem d_M_copyFrom_36 : decode b_M_copyFrom 36 = .ok (.iconst 1, 1) := by decide +kernel
theorem d_M_copyFrom_37 : decode b_M_copyFrom 37 = .ok (.iadd, 1) := by decide +kernel
theorem d_M_copyFrom_38 : decode b_M_copyFrom 38 = .ok (.istore_n 3, 1) := by decide +kernel
theorem d_M_copyFrom_39 : decode b_M_copyFrom 39 = .ok (.iload_n 3, 1) := by decide +kernel
theorem d_M_copyFrom_40 : decode b_M_copyFrom 40 = .ok (.aload_n 1, 1) := by decide +kernel
theorem d_M_copyFrom_41 : decode b_M_copyFrom 41 = .ok (.getfield 71, 3) := by decide +kernel
theorem d_M_copyFrom_44 : decode b_M_copyFrom 44 = .ok (.getfield 75, 3) := by decide +kernel
theorem d_M_copyFrom_47 : decode b_M_copyFrom 47 = .ok (.if_icmp .ge 31, 3) := by decide +kernel
theorem d_M_copyFrom_50 : decode b_M_copyFrom 50 = .ok (.aload_n 1, 1) := by decide +kernel
theorem d_M_copyFrom_51 : decode b_M_copyFrom 51 = .ok (.iload_n 2, 1) := by decide +kernel
theorem d_M_copyFrom_52 : decode b_M_copyFrom 52 = .ok (.iload_n 3, 1) := by decide +kernel
theorem d_M_copyFrom_53 : decode b_M_copyFrom 53 = .ok (.invokevirtual 76, 3) := by decide +kernel
theorem d_M_copyFrom_56 : decode b_M_copyFrom 56 = .ok (.istore 4, 2) := by decide +kernel
theorem d_M_copyFrom_58 : decode b_M_copyFrom 58 = .ok (.iload 4, 2) := by decide +kernel
theorem d_M_copyFrom_60 : decode b_M_copyFrom 60 = .ok (.iload_n 2, 1) := by decide +kernel
theorem d_M_copyFrom_61 : decode b_M_copyFrom 61 = .ok (.if_icmp .le 11, 3) := by decide +kernel
theorem d_M_copyFrom_64 : decode b_M_copyFrom 64 = .ok (.aload_n 0, 1) := by decide +kernel
theorem d_M_copyFrom_65 : decode b_M_copyFrom 65 = .ok (.iload_n 2, 1) := by decide +kernel
theorem d_M_copyFrom_66 : decode b_M_copyFrom 66 = .ok (.iload_n 3, 1) := by decide +kernel
theorem d_M_copyFrom_67 : decode b_M_copyFrom 67 = .ok (.iload 4, 2) := by decide +kernel
theorem d_M_copyFrom_69 : decode b_M_copyFrom 69 = .ok (.invokevirtual 79, 3) := by decide +kernel
theorem d_M_copyFrom_72 : decode b_M_copyFrom 72 = .ok (.iinc 3 1, 3) := by decide +kernel
theorem d_M_copyFrom_75 : decode b_M_copyFrom 75 = .ok (.goto (-36), 3) := by decide +kernel
theorem d_M_copyFrom_78 : decode b_M_copyFrom 78 = .ok (.iinc 2 1, 3) := by decide +kernel
theorem d_M_copyFrom_81 : decode b_M_copyFrom 81 = .ok (.goto (-57), 3) := by decide +kernel
theorem d_M_copyFrom_84 : decode b_M_copyFrom 84 = .ok (.return_, 1) := by decide +kernel
theorem d_M_clear_0 : decode b_M_clear 0 = .ok (.aload_n 0, 1) := by decide +kernel
theorem d_M_clear_1 : decode b_M_clear 1 = .ok (.getfield 19, 3) := by decide +kernel
theorem d_M_clear_4 : decode b_M_clear 4 = .ok (.iconst (-1), 1) := by decide +kernel
theorem d_M_clear_5 : decode b_M_clear 5 = .ok (.invokestatic 83, 3) := by decide +kernel
theorem d_M_clear_8 : decode b_M_clear 8 = .ok (.aload_n 0, 1) := by decide +kernel
theorem d_M_clear_9 : decode b_M_clear 9 = .ok (.iconst 0, 1) := by decide +kernel
theorem d_M_clear_10 : decode b_M_clear 10 = .ok (.putfield 25, 3) := by decide +kernel
theorem d_M_clear_13 : decode b_M_clear 13 = .ok (.return_, 1) := by decide +kernel
theorem d_M_add_0 : decode b_M_add 0 = .ok (.aload_n 0, 1) := by decide +kernel
theorem d_M_add_1 : decode b_M_add 1 = .ok (.getfield 25, 3) := by decide +kernel
theorem d_M_add_4 : decode b_M_add 4 = .ok (.bipush 19, 2) := by decide +kernel
theorem d_M_add_6 : decode b_M_add 6 = .ok (.if_icmp .ge 108, 3) := by decide +kernel
theorem d_M_add_9 : decode b_M_add 9 = .ok (.aload_n 0, 1) := by decide +kernel
theorem d_M_add_10 : decode b_M_add 10 = .ok (.getfield 9, 3) := by decide +kernel
theorem d_M_add_13 : decode b_M_add 13 = .ok (.iconst 3, 1) := by decide +kernel
theorem d_M_add_14 : decode b_M_add 14 = .ok (.aload_n 0, 1) := by decide +kernel
theorem d_M_add_15 : decode b_M_add 15 = .ok (.getfield 25, 3) := by decide +kernel
theorem d_M_add_18 : decode b_M_add 18 = .ok (.imul, 1) := by decide +kernel
theorem d_M_add_19 : decode b_M_add 19 = .ok (.iload_n 1, 1) := by decide +kernel
theorem d_M_add_20 : decode b_M_add 20 = .ok (.iastore, 1) := by decide +kernel
theorem d_M_add_21 : decode b_M_add 21 = .ok (.aload_n 0, 1) := by decide +kernel
theorem d_M_add_22 : decode b_M_add 22 = .ok (.getfield 9, 3) := by decide +kernel
theorem d_M_add_25 : decode b_M_add 25 = .ok (.iconst 3, 1) := by decide +kernel
theorem d_M_add_26 : decode b_M_add 26 = .ok (.aload_n 0, 1) := by decide +kernel
theorem d_M_add_27 : decode b_M_add 27 = .ok (.getfield 25, 3) := by decide +kernel
theorem d_M_add_30 : decode b_M_add 30 = .ok (.imul, 1) := by decide +kernel
theorem d_M_add_31 : decode b_M_add 31 = .ok (.iconst 1, 1) := by decide +kernel
theorem d_M_add_32 : decode b_M_add 32 = .ok (.iadd, 1) := by decide +kernel
theorem d_M_add_33 : decode b_M_add 33 = .ok (.iload_n 2, 1) := by decide +kernel
theorem d_M_add_34 : decode b_M_add 34 = .ok (.iastore, 1) := by decide +kernel
theorem d_M_add_35 : decode b_M_add 35 = .ok (.aload_n 0, 1) := by decide +kernel
theorem d_M_add_36 : decode b_M_add 36 = .ok (.getfield 9, 3) := by decide +kernel
theorem d_M_add_39 : decode b_M_add 39 = .ok (.iconst 3, 1) := by decide +kernel
theorem d_M_add_40 : decode b_M_add 40 = .ok (.aload_n 0, 1) := by decide +kernel
theorem d_M_add_41 : decode b_M_add 41 = .ok (.getfield 25, 3) := by decide +kernel
theorem d_M_add_44 : decode b_M_add 44 = .ok (.imul, 1) := by decide +kernel
theorem d_M_add_45 : decode b_M_add 45 = .ok (.iconst 2, 1) := by decide +kernel
theorem d_M_add_46 : decode b_M_add 46 = .ok (.iadd, 1) := by decide +kernel
theorem d_M_add_47 : decode b_M_add 47 = .ok (.iload_n 3, 1) := by decide +kernel
theorem d_M_add_48 : decode b_M_add 48 = .ok (.iastore, 1) := by decide +kernel
theorem d_M_add_49 : decode b_M_add 49 = .ok (.aload_n 0, 1) := by decide +kernel
theorem d_M_add_50 : decode b_M_add 50 = .ok (.getfield 19, 3) := by decide +kernel
theorem d_M_add_53 : decode b_M_add 53 = .ok (.iload_n 1, 1) := by decide +kernel
theorem d_M_add_54 : decode b_M_add 54 = .ok (.bipush 12, 2) := by decide +kernel
theorem d_M_add_56 : decode b_M_add 56 = .ok (.imul, 1) := by decide +kernel
theorem d_M_add_57 : decode b_M_add 57 = .ok (.iload_n 2, 1) := by decide +kernel
theorem d_M_add_58 : decode b_M_add 58 = .ok (.iadd, 1) := by decide +kernel
theorem d_M_add_59 : decode b_M_add 59 = .ok (.aload_n 0, 1) := by decide +kernel
theorem d_M_add_60 : decode b_M_add 60 = .ok (.getfield 25, 3) := by decide +kernel
theorem d_M_add_63 : decode b_M_add 63 = .ok (.iastore, 1) := by decide +kernel
theorem d_M_add_64 : decode b_M_add 64 = .ok (.aload_n 0, 1) := by decide +kernel
theorem d_M_add_65 : decode b_M_add 65 = .ok (.getfield 19, 3) := by decide +kernel
theorem d_M_add_68 : decode b_M_add 68 = .ok (.iload_n 2, 1) := by decide +kernel
theorem d_M_add_69 : decode b_M_add 69 = .ok (.bipush 12, 2) := by decide +kernel
theorem d_M_add_71 : decode b_M_add 71 = .ok (.imul, 1) := by decide +kernel
theorem d_M_add_72 : decode b_M_add 72 = .ok (.iload_n 3, 1) := by decide +kernel
theorem d_M_add_73 : decode b_M_add 73 = .ok (.iadd, 1) := by decide +kernel
theorem d_M_add_74 : decode b_M_add 74 = .ok (.aload_n 0, 1) := by decide +kernel
theorem d_M_add_75 : decode b_M_add 75 = .ok (.getfield 25, 3) := by decide +kernel
theorem d_M_add_78 : decode b_M_add 78 = .ok (.iastore, 1) := by decide +kernel
theorem d_M_add_79 : decode b_M_add 79 = .ok (.aload_n 0, 1) := by decide +kernel
theorem d_M_add_80 : decode b_M_add 80 = .ok (.getfield 19, 3) := by decide +kernel
theorem d_M_add_83 : decode b_M_add 83 = .ok (.iload_n 3, 1) := by decide +kernel
theorem d_M_add_84 : decode b_M_add 84 = .ok (.bipush 12, 2) := by decide +kernel
theorem d_M_add_86 : decode b_M_add 86 = .ok (.imul, 1) := by decide +kernel
theorem d_M_add_87 : decode b_M_add 87 = .ok (.iload_n 1, 1) := by decide +kernel
theorem d_M_add_88 : decode b_M_add 88 = .ok (.iadd, 1) := by decide +kernel
theorem d_M_add_89 : decode b_M_add 89 = .ok (.aload_n 0, 1) := by decide +kernel
theorem d_M_add_90 : decode b_M_add 90 = .ok (.getfield 25, 3) := by decide +kernel
theorem d_M_add_93 : decode b_M_add 93 = .ok (.iastore, 1) := by decide +kernel
theorem d_M_add_94 : decode b_M_add 94 = .ok (.aload_n 0, 1) := by decide +kernel
theorem d_M_add_95 : decode b_M_add 95 = .ok (.getfield 15, 3) := by decide +kernel
theorem d_M_add_98 : decode b_M_add 98 = .ok (.aload_n 0, 1) := by decide +kernel
theorem d_M_add_99 : decode b_M_add 99 = .ok (.getfield 25, 3) := by decide +kernel
theorem d_M_add_102 : decode b_M_add 102 = .ok (.iconst 0, 1) := by decide +kernel
theorem d_M_add_103 : decode b_M_add 103 = .ok (.bastore, 1) := by decide +kernel
theorem d_M_add_104 : decode b_M_add 104 = .ok (.aload_n 0, 1) := by decide +kernel
theorem d_M_add_105 : decode b_M_add 105 = .ok (.dup, 1) := by decide +kernel
theorem d_M_add_106 : decode b_M_add 106 = .ok (.getfield 25, 3) := by decide +kernel
theorem d_M_add_109 : decode b_M_add 109 = .ok (.iconst 1, 1) := by decide +kernel
theorem d_M_add_110 : decode b_M_add 110 = .ok (.iadd, 1) := by decide +kernel
theorem d_M_add_111 : decode b_M_add 111 = .ok (.putfield 25, 3) := by decide +kernel
theorem d_M_add_114 : decode b_M_add 114 = .ok (.return_, 1) := by decide +kernel
theorem d_M_markHoles_0 : decode b_M_markHoles 0 = .ok (.iconst 0, 1) := by decide +kernel
theorem d_M_markHoles_1 : decode b_M_markHoles 1 = .ok (.istore_n 3, 1) := by decide +kernel
theorem d_M_markHoles_2 : decode b_M_markHoles 2 = .ok (.iload_n 3, 1) := by decide +kernel
theorem d_M_markHoles_3 : decode b_M_markHoles 3 = .ok (.aload_n 2, 1) := by decide +kernel
theorem d_M_markHoles_4 : decode b_M_markHoles 4 = .ok (.getfield 75, 3) := by decide +kernel
theorem d_M_markHoles_7 : decode b_M_markHoles 7 = .ok (.if_icmp .ge 57, 3) := by decide +kernel
theorem d_M_markHoles_10 : decode b_M_markHoles 10 = .ok (.iconst 0, 1) := by decide +kernel
theorem d_M_markHoles_11 : decode b_M_markHoles 11 = .ok (.istore 4, 2) := by decide +kernel
theorem d_M_markHoles_13 : decode b_M_markHoles 13 = .ok (.iload 4, 2) := by decide +kernel
theorem d_M_markHoles_15 : decode b_M_markHoles 15 = .ok (.aload_n 0, 1) := by decide +kernel
theorem d_M_markHoles_16 : decode b_M_markHoles 16 = .ok (.getfield 25, 3) := by decide +kernel
theorem d_M_markHoles_19 : decode b_M_markHoles 19 = .ok (.if_icmp .ge 39, 3) := by decide +kernel
theorem d_M_markHoles_22 : decode b_M_markHoles 22 = .ok (.aload_n 0, 1) := by decide +kernel
theorem d_M_markHoles_23 : decode b_M_markHoles 23 = .ok (.aload_n 1, 1) := by decide +kernel
theorem d_M_markHoles_24 : decode b_M_markHoles 24 = .ok (.iload 4, 2) := by decide +kernel
theorem d_M_markHoles_26 : decode b_M_markHoles 26 = .ok (.aload_n 2, 1) := by decide +kernel
theorem d_M_markHoles_27 : decode b_M_markHoles 27 = .ok (.getfield 42, 3) := by decide +kernel
theorem d_M_markHoles_30 : decode b_M_markHoles 30 = .ok (.iload_n 3, 1) := by decide +kernel
theorem d_M_markHoles_31 : decode b_M_markHoles 31 = .ok (.iaload, 1) := by decide +kernel
theorem d_M_markHoles_32 : decode b_M_markHoles 32 = .ok (.aload_n 2, 1) := by decide +kernel
theorem d_M_markHoles_33 : decode b_M_markHoles 33 = .ok (.getfield 45, 3) := by decide +kernel
theorem d_M_markHoles_36 : decode b_M_markHoles 36 = .ok (.iload_n 3, 1) := by decide +kernel
theorem d_M_markHoles_37 : decode b_M_markHoles 37 = .ok (.iaload, 1) := by decide +kernel
theorem d_M_markHoles_38 : decode b_M_markHoles 38 = .ok (.invokevirtual 89, 3) := by decide +kernel
theorem d_M_markHoles_41 : decode b_M_markHoles 41 = .ok (.ifCond .eq 11, 3) := by decide +kernel
theorem d_M_markHoles_44 : decode b_M_markHoles 44 = .ok (.aload_n 0, 1) := by decide +kernel
theorem d_M_markHoles_45 : decode b_M_markHoles 45 = .ok (.getfield 15, 3) := by decide +kernel
theorem d_M_markHoles_48 : decode b_M_markHoles 48 = .ok (.iload 4, 2) := by decide +kernel
theorem d_M_markHoles_50 : decode b_M_markHoles 50 = .ok (.iconst 1, 1) := by decide +kernel
theorem d_M_markHoles_51 : decode b_M_markHoles 51 = .ok (.bastore, 1) := by decide +kernel
theorem d_M_markHoles_52 : decode b_M_markHoles 52 = .ok (.iinc 4 1, 3) := by decide +kernel
theorem d_M_markHoles_55 : decode b_M_markHoles 55 = .ok (.goto (-42), 3) := by decide +kernel
theorem d_M_markHoles_58 : decode b_M_markHoles 58 = .ok (.iinc 3 1, 3) := by decide +kernel
theorem d_M_markHoles_61 : decode b_M_markHoles 61 = .ok (.goto (-59), 3) := by decide +kernel
theorem d_M_markHoles_64 : decode b_M_markHoles 64 = .ok (.return_, 1) := by decide +kernel
theorem d_M_holds_0 : decode b_M_holds 0 = .ok (.iconst 0, 1) := by decide +kernel
theorem d_M_holds_1 : decode b_M_holds 1 = .ok (.istore 5, 2) := by decide +kernel
theorem d_M_holds_3 : decode b_M_holds 3 = .ok (.iload 5, 2) := by decide +kernel
theorem d_M_holds_5 : decode b_M_holds 5 = .ok (.iconst 3, 1) := by decide +kernel
theorem d_M_holds_6 : decode b_M_holds 6 = .ok (.if_icmp .ge 37, 3) := by decide +kernel
theorem d_M_holds_9 : decode b_M_holds 9 = .ok (.aload_n 1, 1) := by decide +kernel
theorem d_M_holds_10 : decode b_M_holds 10 = .ok (.aload_n 0, 1) := by decide +kernel
theorem d_M_holds_11 : decode b_M_holds 11 = .ok (.iload_n 2, 1) := by decide +kernel
theorem d_M_holds_12 : decode b_M_holds 12 = .ok (.iload 5, 2) := by decide +kernel
theorem d_M_holds_14 : decode b_M_holds 14 = .ok (.invokevirtual 29, 3) := by decide +kernel
theorem d_M_holds_17 : decode b_M_holds 17 = .ok (.aload_n 0, 1) := by decide +kernel
theorem d_M_holds_18 : decode b_M_holds 18 = .ok (.iload_n 2, 1) := by decide +kernel
theorem d_M_holds_19 : decode b_M_holds 19 = .ok (.iload 5, 2) := by decide +kernel
theorem d_M_holds_21 : decode b_M_holds 21 = .ok (.invokevirtual 33, 3) := by decide +kernel
theorem d_M_holds_24 : decode b_M_holds 24 = .ok (.iload_n 3, 1) := by decide +kernel
theorem d_M_holds_25 : decode b_M_holds 25 = .ok (.iload 4, 2) := by decide +kernel
theorem d_M_holds_27 : decode b_M_holds 27 = .ok (.invokevirtual 36, 3) := by decide +kernel
theorem d_M_holds_30 : decode b_M_holds 30 = .ok (.lconst 0, 1) := by decide +kernel
theorem d_M_holds_31 : decode b_M_holds 31 = .ok (.lcmp, 1) := by decide +kernel
theorem d_M_holds_32 : decode b_M_holds 32 = .ok (.ifCond .ge 5, 3) := by decide +kernel
theorem d_M_holds_35 : decode b_M_holds 35 = .ok (.iconst 0, 1) := by decide +kernel
theorem d_M_holds_36 : decode b_M_holds 36 = .ok (.ireturn, 1) := by decide +kernel
theorem d_M_holds_37 : decode b_M_holds 37 = .ok (.iinc 5 1, 3) := by decide +kernel
theorem d_M_holds_40 : decode b_M_holds 40 = .ok (.goto (-37), 3) := by decide +kernel
theorem d_M_holds_43 : decode b_M_holds 43 = .ok (.iconst 1, 1) := by decide +kernel
theorem d_M_holds_44 : decode b_M_holds 44 = .ok (.ireturn, 1) := by decide +kernel
theorem d_M_cornerOf_0 : decode b_M_cornerOf 0 = .ok (.aload_n 0, 1) := by decide +kernel
theorem d_M_cornerOf_1 : decode b_M_cornerOf 1 = .ok (.getfield 9, 3) := by decide +kernel
theorem d_M_cornerOf_4 : decode b_M_cornerOf 4 = .ok (.iconst 3, 1) := by decide +kernel
theorem d_M_cornerOf_5 : decode b_M_cornerOf 5 = .ok (.iload_n 1, 1) := by decide +kernel
theorem d_M_cornerOf_6 : decode b_M_cornerOf 6 = .ok (.imul, 1) := by decide +kernel
theorem d_M_cornerOf_7 : decode b_M_cornerOf 7 = .ok (.iload_n 2, 1) := by decide +kernel
theorem d_M_cornerOf_8 : decode b_M_cornerOf 8 = .ok (.iadd, 1) := by decide +kernel
theorem d_M_cornerOf_9 : decode b_M_cornerOf 9 = .ok (.iaload, 1) := by decide +kernel
theorem d_M_cornerOf_10 : decode b_M_cornerOf 10 = .ok (.ireturn, 1) := by decide +kernel
theorem d_M_endOf_0 : decode b_M_endOf 0 = .ok (.aload_n 0, 1) := by decide +kernel
theorem d_M_endOf_1 : decode b_M_endOf 1 = .ok (.iload_n 1, 1) := by decide +kernel
theorem d_M_endOf_2 : decode b_M_endOf 2 = .ok (.iload_n 2, 1) := by decide +kernel
theorem d_M_endOf_3 : decode b_M_endOf 3 = .ok (.iconst 2, 1) := by decide +kernel
theorem d_M_endOf_4 : decode b_M_endOf 4 = .ok (.if_icmp .ne 7, 3) := by decide +kernel
theorem d_M_endOf_7 : decode b_M_endOf 7 = .ok (.iconst 0, 1) := by decide +kernel
theorem d_M_endOf_8 : decode b_M_endOf 8 = .ok (.goto 6, 3) := by decide +kernel
theorem d_M_endOf_11 : decode b_M_endOf 11 = .ok (.iload_n 2, 1) := by decide +kernel
theorem d_M_endOf_12 : decode b_M_endOf 12 = .ok (.iconst 1, 1) := by decide +kernel
theorem d_M_endOf_13 : decode b_M_endOf 13 = .ok (.iadd, 1) := by decide +kernel
theorem d_M_endOf_14 : decode b_M_endOf 14 = .ok (.invokevirtual 29, 3) := by decide +kernel
theorem d_M_endOf_17 : decode b_M_endOf 17 = .ok (.ireturn, 1) := by decide +kernel
theorem d_M_markOutside_0 : decode b_M_markOutside 0 = .ok (.iconst 0, 1) := by decide +kernel
theorem d_M_markOutside_1 : decode b_M_markOutside 1 = .ok (.istore_n 1, 1) := by decide +kernel
theorem d_M_markOutside_2 : decode b_M_markOutside 2 = .ok (.iload_n 1, 1) := by decide +kernel
theorem d_M_markOutside_3 : decode b_M_markOutside 3 = .ok (.aload_n 0, 1) := by decide +kernel
theorem d_M_markOutside_4 : decode b_M_markOutside 4 = .ok (.getfield 25, 3) := by decide +kernel
theorem d_M_markOutside_7 : decode b_M_markOutside 7 = .ok (.if_icmp .ge 48, 3) := by decide +kernel
theorem d_M_markOutside_10 : decode b_M_markOutside 10 = .ok (.iconst 0, 1) := by decide +kernel
theorem d_M_markOutside_11 : decode b_M_markOutside 11 = .ok (.istore_n 2, 1) := by decide +kernel
theorem d_M_markOutside_12 : decode b_M_markOutside 12 = .ok (.iload_n 2, 1) := by decide +kernel
theorem d_M_markOutside_13 : decode b_M_markOutside 13 = .ok (.iconst 3, 1) := by decide +kernel
theorem d_M_markOutside_14 : decode b_M_markOutside 14 = .ok (.if_icmp .ge 35, 3) := by decide +kernel
theorem d_M_markOutside_17 : decode b_M_markOutside 17 = .ok (.aload_n 0, 1) := by decide +kernel
theorem d_M_markOutside_18 : decode b_M_markOutside 18 = .ok (.iload_n 1, 1) := by decide +kernel
theorem d_M_markOutside_19 : decode b_M_markOutside 19 = .ok (.iload_n 2, 1) := by decide +kernel
theorem d_M_markOutside_20 : decode b_M_markOutside 20 = .ok (.invokevirtual 48, 3) := by decide +kernel
theorem d_M_markOutside_23 : decode b_M_markOutside 23 = .ok (.iconst (-1), 1) := by decide +kernel
theorem d_M_markOutside_24 : decode b_M_markOutside 24 = .ok (.if_icmp .ne 19, 3) := by decide +kernel
theorem d_M_markOutside_27 : decode b_M_markOutside 27 = .ok (.aload_n 0, 1) := by decide +kernel
theorem d_M_markOutside_28 : decode b_M_markOutside 28 = .ok (.iload_n 1, 1) := by decide +kernel
theorem d_M_markOutside_29 : decode b_M_markOutside 29 = .ok (.iload_n 2, 1) := by decide +kernel
theorem d_M_markOutside_30 : decode b_M_markOutside 30 = .ok (.invokevirtual 93, 3) := by decide +kernel
theorem d_M_markOutside_33 : decode b_M_markOutside 33 = .ok (.ifCond .ne 10, 3) := by decide +kernel
theorem d_M_markOutside_36 : decode b_M_markOutside 36 = .ok (.aload_n 0, 1) := by decide +kernel
theorem d_M_markOutside_37 : decode b_M_markOutside 37 = .ok (.getfield 15, 3) := by decide +kernel
theorem d_M_markOutside_40 : decode b_M_markOutside 40 = .ok (.iload_n 1, 1) := by decide +kernel
theorem d_M_markOutside_41 : decode b_M_markOutside 41 = .ok (.iconst 1, 1) := by decide +kernel
theorem d_M_markOutside_42 : decode b_M_markOutside 42 = .ok (.bastore, 1) := by decide +kernel
theorem d_M_markOutside_43 : decode b_M_markOutside 43 = .ok (.iinc 2 1, 3) := by decide +kernel
theorem d_M_markOutside_46 : decode b_M_markOutside 46 = .ok (.goto (-34), 3) := by decide +kernel
theorem d_M_markOutside_49 : decode b_M_markOutside 49 = .ok (.iinc 1 1, 3) := by decide +kernel
theorem d_M_markOutside_52 : decode b_M_markOutside 52 = .ok (.goto (-50), 3) := by decide +kernel
theorem d_M_markOutside_55 : decode b_M_markOutside 55 = .ok (.return_, 1) := by decide +kernel
theorem d_M_beyond_0 : decode b_M_beyond 0 = .ok (.aload_n 0, 1) := by decide +kernel
theorem d_M_beyond_1 : decode b_M_beyond 1 = .ok (.getfield 19, 3) := by decide +kernel
theorem d_M_beyond_4 : decode b_M_beyond 4 = .ok (.aload_n 0, 1) := by decide +kernel
theorem d_M_beyond_5 : decode b_M_beyond 5 = .ok (.iload_n 1, 1) := by decide +kernel
theorem d_M_beyond_6 : decode b_M_beyond 6 = .ok (.iload_n 2, 1) := by decide +kernel
theorem d_M_beyond_7 : decode b_M_beyond 7 = .ok (.invokevirtual 33, 3) := by decide +kernel
theorem d_M_beyond_10 : decode b_M_beyond 10 = .ok (.bipush 12, 2) := by decide +kernel
theorem d_M_beyond_12 : decode b_M_beyond 12 = .ok (.imul, 1) := by decide +kernel
theorem d_M_beyond_13 : decode b_M_beyond 13 = .ok (.aload_n 0, 1) := by decide +kernel
theorem d_M_beyond_14 : decode b_M_beyond 14 = .ok (.iload_n 1, 1) := by decide +kernel
theorem d_M_beyond_15 : decode b_M_beyond 15 = .ok (.iload_n 2, 1) := by decide +kernel
theorem d_M_beyond_16 : decode b_M_beyond 16 = .ok (.invokevirtual 29, 3) := by decide +kernel
theorem d_M_beyond_19 : decode b_M_beyond 19 = .ok (.iadd, 1) := by decide +kernel
theorem d_M_beyond_20 : decode b_M_beyond 20 = .ok (.iaload, 1) := by decide +kernel
theorem d_M_beyond_21 : decode b_M_beyond 21 = .ok (.ireturn, 1) := by decide +kernel
theorem d_M_isFixed_0 : decode b_M_isFixed 0 = .ok (.aload_n 0, 1) := by decide +kernel
theorem d_M_isFixed_1 : decode b_M_isFixed 1 = .ok (.getfield 22, 3) := by decide +kernel
theorem d_M_isFixed_4 : decode b_M_isFixed 4 = .ok (.aload_n 0, 1) := by decide +kernel
theorem d_M_isFixed_5 : decode b_M_isFixed 5 = .ok (.iload_n 1, 1) := by decide +kernel
theorem d_M_isFixed_6 : decode b_M_isFixed 6 = .ok (.iload_n 2, 1) := by decide +kernel
theorem d_M_isFixed_7 : decode b_M_isFixed 7 = .ok (.invokevirtual 29, 3) := by decide +kernel
theorem d_M_isFixed_10 : decode b_M_isFixed 10 = .ok (.iaload, 1) := by decide +kernel
theorem d_M_isFixed_11 : decode b_M_isFixed 11 = .ok (.aload_n 0, 1) := by decide +kernel
theorem d_M_isFixed_12 : decode b_M_isFixed 12 = .ok (.iload_n 1, 1) := by decide +kernel
theorem d_M_isFixed_13 : decode b_M_isFixed 13 = .ok (.iload_n 2, 1) := by decide +kernel
theorem d_M_isFixed_14 : decode b_M_isFixed 14 = .ok (.invokevirtual 33, 3) := by decide +kernel
theorem d_M_isFixed_17 : decode b_M_isFixed 17 = .ok (.ishr, 1) := by decide +kernel
theorem d_M_isFixed_18 : decode b_M_isFixed 18 = .ok (.iconst 1, 1) := by decide +kernel
theorem d_M_isFixed_19 : decode b_M_isFixed 19 = .ok (.iand, 1) := by decide +kernel
theorem d_M_isFixed_20 : decode b_M_isFixed 20 = .ok (.ifCond .eq 7, 3) := by decide +kernel
theorem d_M_isFixed_23 : decode b_M_isFixed 23 = .ok (.iconst 1, 1) := by decide +kernel
theorem d_M_isFixed_24 : decode b_M_isFixed 24 = .ok (.goto 4, 3) := by decide +kernel
theorem d_M_isFixed_27 : decode b_M_isFixed 27 = .ok (.iconst 0, 1) := by decide +kernel
theorem d_M_isFixed_28 : decode b_M_isFixed 28 = .ok (.ireturn, 1) := by decide +kernel
theorem d_M_spreadMarks_0 : decode b_M_spreadMarks 0 = .ok (.iconst 1, 1) := by decide +kernel
theorem d_M_spreadMarks_1 : decode b_M_spreadMarks 1 = .ok (.istore_n 1, 1) := by decide +kernel
theorem d_M_spreadMarks_2 : decode b_M_spreadMarks 2 = .ok (.iconst 0, 1) := by decide +kernel
theorem d_M_spreadMarks_3 : decode b_M_spreadMarks 3 = .ok (.istore_n 2, 1) := by decide +kernel
theorem d_M_spreadMarks_4 : decode b_M_spreadMarks 4 = .ok (.iload_n 1, 1) := by decide +kernel
theorem d_M_spreadMarks_5 : decode b_M_spreadMarks 5 = .ok (.ifCond .eq 59, 3) := by decide +kernel
theorem d_M_spreadMarks_8 : decode b_M_spreadMarks 8 = .ok (.iload_n 2, 1) := by decide +kernel
theorem d_M_spreadMarks_9 : decode b_M_spreadMarks 9 = .ok (.bipush 19, 2) := by decide +kernel
theorem d_M_spreadMarks_11 : decode b_M_spreadMarks 11 = .ok (.if_icmp .gt 53, 3) := by decide +kernel
theorem d_M_spreadMarks_14 : decode b_M_spreadMarks 14 = .ok (.iconst 0, 1) := by decide +kernel
theorem d_M_spreadMarks_15 : decode b_M_spreadMarks 15 = .ok (.istore_n 1, 1) := by decide +kernel
theorem d_M_spreadMarks_16 : decode b_M_spreadMarks 16 = .ok (.iconst 0, 1) := by decide +kernel
theorem d_M_spreadMarks_17 : decode b_M_spreadMarks 17 = .ok (.istore_n 3, 1) := by decide +kernel
theorem d_M_spreadMarks_18 : decode b_M_spreadMarks 18 = .ok (.iload_n 3, 1) := by decide +kernel
theorem d_M_spreadMarks_19 : decode b_M_spreadMarks 19 = .ok (.aload_n 0, 1) := by decide +kernel
theorem d_M_spreadMarks_20 : decode b_M_spreadMarks 20 = .ok (.getfield 25, 3) := by decide +kernel
theorem d_M_spreadMarks_23 : decode b_M_spreadMarks 23 = .ok (.if_icmp .ge 35, 3) := by decide +kernel
theorem d_M_spreadMarks_26 : decode b_M_spreadMarks 26 = .ok (.aload_n 0, 1) := by decide +kernel
theorem d_M_spreadMarks_27 : decode b_M_spreadMarks 27 = .ok (.getfield 15, 3) := by decide +kernel
theorem d_M_spreadMarks_30 : decode b_M_spreadMarks 30 = .ok (.iload_n 3, 1) := by decide +kernel
theorem d_M_spreadMarks_31 : decode b_M_spreadMarks 31 = .ok (.baload, 1) := by decide +kernel
theorem d_M_spreadMarks_32 : decode b_M_spreadMarks 32 = .ok (.ifCond .ne 20, 3) := by decide +kernel
theorem d_M_spreadMarks_35 : decode b_M_spreadMarks 35 = .ok (.aload_n 0, 1) := by decide +kernel
theorem d_M_spreadMarks_36 : decode b_M_spreadMarks 36 = .ok (.iload_n 3, 1) := by decide +kernel
theorem d_M_spreadMarks_37 : decode b_M_spreadMarks 37 = .ok (.invokevirtual 97, 3) := by decide +kernel
theorem d_M_spreadMarks_40 : decode b_M_spreadMarks 40 = .ok (.ifCond .eq 12, 3) := by decide +kernel
theorem d_M_spreadMarks_43 : decode b_M_spreadMarks 43 = .ok (.aload_n 0, 1) := by decide +kernel
theorem d_M_spreadMarks_44 : decode b_M_spreadMarks 44 = .ok (.getfield 15, 3) := by decide +kernel
theorem d_M_spreadMarks_47 : decode b_M_spreadMarks 47 = .ok (.iload_n 3, 1) := by decide +kernel
theorem d_M_spreadMarks_48 : decode b_M_spreadMarks 48 = .ok (.iconst 1, 1) := by decide +kernel
theorem d_M_spreadMarks_49 : decode b_M_spreadMarks 49 = .ok (.bastore, 1) := by decide +kernel
theorem d_M_spreadMarks_50 : decode b_M_spreadMarks 50 = .ok (.iconst 1, 1) := by decide +kernel
theorem d_M_spreadMarks_51 : decode b_M_spreadMarks 51 = .ok (.istore_n 1, 1) := by decide +kernel
theorem d_M_spreadMarks_52 : decode b_M_spreadMarks 52 = .ok (.iinc 3 1, 3) := by decide +kernel
theorem d_M_spreadMarks_55 : decode b_M_spreadMarks 55 = .ok (.goto (-37), 3) := by decide +kernel
theorem d_M_spreadMarks_58 : decode b_M_spreadMarks 58 = .ok (.iinc 2 1, 3) := by decide +kernel
theorem d_M_spreadMarks_61 : decode b_M_spreadMarks 61 = .ok (.goto (-57), 3) := by decide +kernel
theorem d_M_spreadMarks_64 : decode b_M_spreadMarks 64 = .ok (.return_, 1) := by decide +kernel
theorem d_M_isBesideMarked_0 : decode b_M_isBesideMarked 0 = .ok (.iconst 0, 1) := by decide +kernel
theorem d_M_isBesideMarked_1 : decode b_M_isBesideMarked 1 = .ok (.istore_n 2, 1) := by decide +kernel
theorem d_M_isBesideMarked_2 : decode b_M_isBesideMarked 2 = .ok (.iload_n 2, 1) := by decide +kernel
theorem d_M_isBesideMarked_3 : decode b_M_isBesideMarked 3 = .ok (.iconst 3, 1) := by decide +kernel
theorem d_M_isBesideMarked_4 : decode b_M_isBesideMarked 4 = .ok (.if_icmp .ge 41, 3) := by decide +kernel
theorem d_M_isBesideMarked_7 : decode b_M_isBesideMarked 7 = .ok (.aload_n 0, 1) := by decide +kernel
theorem d_M_isBesideMarked_8 : decode b_M_isBesideMarked 8 = .ok (.iload_n 1, 1) := by decide +kernel
theorem d_M_isBesideMarked_9 : decode b_M_isBesideMarked 9 = .ok (.iload_n 2, 1) := by decide +kernel
theorem d_M_isBesideMarked_10 : decode b_M_isBesideMarked 10 = .ok (.invokevirtual 48, 3) := by decide +kernel
theorem d_M_isBesideMarked_13 : decode b_M_isBesideMarked 13 = .ok (.istore_n 3, 1) := by decide +kernel
theorem d_M_isBesideMarked_14 : decode b_M_isBesideMarked 14 = .ok (.iload_n 3, 1) := by decide +kernel
theorem d_M_isBesideMarked_15 : decode b_M_isBesideMarked 15 = .ok (.iconst (-1), 1) := by decide +kernel
theorem d_M_isBesideMarked_16 : decode b_M_isBesideMarked 16 = .ok (.if_icmp .eq 23, 3) := by decide +kernel
theorem d_M_isBesideMarked_19 : decode b_M_isBesideMarked 19 = .ok (.aload_n 0, 1) := by decide +kernel
theorem d_M_isBesideMarked_20 : decode b_M_isBesideMarked 20 = .ok (.getfield 15, 3) := by decide +kernel
theorem d_M_isBesideMarked_23 : decode b_M_isBesideMarked 23 = .ok (.iload_n 3, 1) := by decide +kernel
theorem d_M_isBesideMarked_24 : decode b_M_isBesideMarked 24 = .ok (.baload, 1) := by decide +kernel
theorem d_M_isBesideMarked_25 : decode b_M_isBesideMarked 25 = .ok (.ifCond .eq 14, 3) := by decide +kernel
theorem d_M_isBesideMarked_28 : decode b_M_isBesideMarked 28 = .ok (.aload_n 0, 1) := by decide +kernel
theorem d_M_isBesideMarked_29 : decode b_M_isBesideMarked 29 = .ok (.iload_n 1, 1) := by decide +kernel
theorem d_M_isBesideMarked_30 : decode b_M_isBesideMarked 30 = .ok (.iload_n 2, 1) := by decide +kernel
theorem d_M_isBesideMarked_31 : decode b_M_isBesideMarked 31 = .ok (.invokevirtual 93, 3) := by decide +kernel
theorem d_M_isBesideMarked_34 : decode b_M_isBesideMarked 34 = .ok (.ifCond .ne 5, 3) := by decide +kernel
theorem d_M_isBesideMarked_37 : decode b_M_isBesideMarked 37 = .ok (.iconst 1, 1) := by decide +kernel
theorem d_M_isBesideMarked_38 : decode b_M_isBesideMarked 38 = .ok (.ireturn, 1) := by decide +kernel
theorem d_M_isBesideMarked_39 : decode b_M_isBesideMarked 39 = .ok (.iinc 2 1, 3) := by decide +kernel
theorem d_M_isBesideMarked_42 : decode b_M_isBesideMarked 42 = .ok (.goto (-40), 3) := by decide +kernel
theorem d_M_isBesideMarked_45 : decode b_M_isBesideMarked 45 = .ok (.iconst 0, 1) := by decide +kernel
theorem d_M_isBesideMarked_46 : decode b_M_isBesideMarked 46 = .ok (.ireturn, 1) := by decide +kernel
theorem d_M_dropMarked_0 : decode b_M_dropMarked 0 = .ok (.aload_n 0, 1) := by decide +kernel
theorem d_M_dropMarked_1 : decode b_M_dropMarked 1 = .ok (.getfield 25, 3) := by decide +kernel
theorem d_M_dropMarked_4 : decode b_M_dropMarked 4 = .ok (.istore_n 1, 1) := by decide +kernel
theorem d_M_dropMarked_5 : decode b_M_dropMarked 5 = .ok (.aload_n 0, 1) := by decide +kernel
theorem d_M_dropMarked_6 : decode b_M_dropMarked 6 = .ok (.invokevirtual 68, 3) := by decide +kernel
theorem d_M_dropMarked_9 : decode b_M_dropMarked 9 = .ok (.iconst 0, 1) := by decide +kernel
theorem d_M_dropMarked_10 : decode b_M_dropMarked 10 = .ok (.istore_n 2, 1) := by decide +kernel
theorem d_M_dropMarked_11 : decode b_M_dropMarked 11 = .ok (.iload_n 2, 1) := by decide +kernel
theorem d_M_dropMarked_12 : decode b_M_dropMarked 12 = .ok (.iload_n 1, 1) := by decide +kernel
theorem d_M_dropMarked_13 : decode b_M_dropMarked 13 = .ok (.if_icmp .ge 40, 3) := by decide +kernel
theorem d_M_dropMarked_16 : decode b_M_dropMarked 16 = .ok (.aload_n 0, 1) := by decide +kernel
theorem d_M_dropMarked_17 : decode b_M_dropMarked 17 = .ok (.getfield 15, 3) := by decide +kernel
theorem d_M_dropMarked_20 : decode b_M_dropMarked 20 = .ok (.iload_n 2, 1) := by decide +kernel
theorem d_M_dropMarked_21 : decode b_M_dropMarked 21 = .ok (.baload, 1) := by decide +kernel
theorem d_M_dropMarked_22 : decode b_M_dropMarked 22 = .ok (.ifCond .ne 25, 3) := by decide +kernel
theorem d_M_dropMarked_25 : decode b_M_dropMarked 25 = .ok (.aload_n 0, 1) := by decide +kernel
theorem d_M_dropMarked_26 : decode b_M_dropMarked 26 = .ok (.aload_n 0, 1) := by decide +kernel
theorem d_M_dropMarked_27 : decode b_M_dropMarked 27 = .ok (.iload_n 2, 1) := by decide +kernel
theorem d_M_dropMarked_28 : decode b_M_dropMarked 28 = .ok (.iconst 0, 1) := by decide +kernel
theorem d_M_dropMarked_29 : decode b_M_dropMarked 29 = .ok (.invokevirtual 29, 3) := by decide +kernel
theorem d_M_dropMarked_32 : decode b_M_dropMarked 32 = .ok (.aload_n 0, 1) := by decide +kernel
theorem d_M_dropMarked_33 : decode b_M_dropMarked 33 = .ok (.iload_n 2, 1) := by decide +kernel
theorem d_M_dropMarked_34 : decode b_M_dropMarked 34 = .ok (.iconst 1, 1) := by decide +kernel
theorem d_M_dropMarked_35 : decode b_M_dropMarked 35 = .ok (.invokevirtual 29, 3) := by decide +kernel
theorem d_M_dropMarked_38 : decode b_M_dropMarked 38 = .ok (.aload_n 0, 1) := by decide +kernel
theorem d_M_dropMarked_39 : decode b_M_dropMarked 39 = .ok (.iload_n 2, 1) := by decide +kernel
theorem d_M_dropMarked_40 : decode b_M_dropMarked 40 = .ok (.iconst 2, 1) := by decide +kernel
theorem d_M_dropMarked_41 : decode b_M_dropMarked 41 = .ok (.invokevirtual 29, 3) := by decide +kernel
theorem d_M_dropMarked_44 : decode b_M_dropMarked 44 = .ok (.invokevirtual 79, 3) := by decide +kernel
theorem d_M_dropMarked_47 : decode b_M_dropMarked 47 = .ok (.iinc 2 1, 3) := by decide +kernel
theorem d_M_dropMarked_50 : decode b_M_dropMarked 50 = .ok (.goto (-39), 3) := by decide +kernel
theorem d_M_dropMarked_53 : decode b_M_dropMarked 53 = .ok (.return_, 1) := by decide +kernel
theorem d_X_triangles_0 : decode b_X_triangles 0 = .ok (.aload_n 0, 1) := by decide +kernel
theorem d_X_triangles_1 : decode b_X_triangles 1 = .ok (.getfield 37, 3) := by decide +kernel
theorem d_X_triangles_4 : decode b_X_triangles 4 = .ok (.getfield 117, 3) := by decide +kernel
theorem d_X_triangles_7 : decode b_X_triangles 7 = .ok (.ireturn, 1) := by decide +kernel
theorem d_X_corner_0 : decode b_X_corner 0 = .ok (.aload_n 0, 1) := by decide +kernel
theorem d_X_corner_1 : decode b_X_corner 1 = .ok (.getfield 37, 3) := by decide +kernel
theorem d_X_corner_4 : decode b_X_corner 4 = .ok (.iload_n 1, 1) := by decide +kernel
theorem d_X_corner_5 : decode b_X_corner 5 = .ok (.iload_n 2, 1) := by decide +kernel
theorem d_X_corner_6 : decode b_X_corner 6 = .ok (.invokevirtual 118, 3) := by decide +kernel
theorem d_X_corner_9 : decode b_X_corner 9 = .ok (.ifCond .eq 15, 3) := by decide +kernel
theorem d_X_corner_12 : decode b_X_corner 12 = .ok (.aload_n 0, 1) := by decide +kernel
theorem d_X_corner_13 : decode b_X_corner 13 = .ok (.getfield 37, 3) := by decide +kernel
theorem d_X_corner_16 : decode b_X_corner 16 = .ok (.iload_n 1, 1) := by decide +kernel
theorem d_X_corner_17 : decode b_X_corner 17 = .ok (.iload_n 2, 1) := by decide +kernel
theorem d_X_corner_18 : decode b_X_corner 18 = .ok (.invokevirtual 121, 3) := by decide +kernel
theorem d_X_corner_21 : decode b_X_corner 21 = .ok (.goto 4, 3) := by decide +kernel
theorem d_X_corner_24 : decode b_X_corner 24 = .ok (.iconst (-1), 1) := by decide +kernel
theorem d_X_corner_25 : decode b_X_corner 25 = .ok (.ireturn, 1) := by decide +kernel
theorem d_M_hasSide_0 : decode b_M_hasSide 0 = .ok (.iload_n 1, 1) := by decide +kernel
theorem d_M_hasSide_1 : decode b_M_hasSide 1 = .ok (.ifCond .lt 24, 3) := by decide +kernel
theorem d_M_hasSide_4 : decode b_M_hasSide 4 = .ok (.iload_n 1, 1) := by decide +kernel
theorem d_M_hasSide_5 : decode b_M_hasSide 5 = .ok (.aload_n 0, 1) := by decide +kernel
theorem d_M_hasSide_6 : decode b_M_hasSide 6 = .ok (.getfield 25, 3) := by decide +kernel
theorem d_M_hasSide_9 : decode b_M_hasSide 9 = .ok (.if_icmp .ge 16, 3) := by decide +kernel
theorem d_M_hasSide_12 : decode b_M_hasSide 12 = .ok (.iload_n 2, 1) := by decide +kernel
theorem d_M_hasSide_13 : decode b_M_hasSide 13 = .ok (.ifCond .lt 12, 3) := by decide +kernel
theorem d_M_hasSide_16 : decode b_M_hasSide 16 = .ok (.iload_n 2, 1) := by decide +kernel
theorem d_M_hasSide_17 : decode b_M_hasSide 17 = .ok (.iconst 2, 1) := by decide +kernel
theorem d_M_hasSide_18 : decode b_M_hasSide 18 = .ok (.if_icmp .gt 7, 3) := by decide +kernel
theorem d_M_hasSide_21 : decode b_M_hasSide 21 = .ok (.iconst 1, 1) := by decide +kernel
theorem d_M_hasSide_22 : decode b_M_hasSide 22 = .ok (.goto 4, 3) := by decide +kernel
theorem d_M_hasSide_25 : decode b_M_hasSide 25 = .ok (.iconst 0, 1) := by decide +kernel
theorem d_M_hasSide_26 : decode b_M_hasSide 26 = .ok (.ireturn, 1) := by decide +kernel
theorem d_X_across_0 : decode b_X_across 0 = .ok (.aload_n 0, 1) := by decide +kernel
theorem d_X_across_1 : decode b_X_across 1 = .ok (.getfield 37, 3) := by decide +kernel
theorem d_X_across_4 : decode b_X_across 4 = .ok (.iload_n 1, 1) := by decide +kernel
theorem d_X_across_5 : decode b_X_across 5 = .ok (.iload_n 2, 1) := by decide +kernel
theorem d_X_across_6 : decode b_X_across 6 = .ok (.invokevirtual 118, 3) := by decide +kernel
theorem d_X_across_9 : decode b_X_across 9 = .ok (.ifCond .eq 15, 3) := by decide +kernel
theorem d_X_across_12 : decode b_X_across 12 = .ok (.aload_n 0, 1) := by decide +kernel
theorem d_X_across_13 : decode b_X_across 13 = .ok (.getfield 37, 3) := by decide +kernel
theorem d_X_across_16 : decode b_X_across 16 = .ok (.iload_n 1, 1) := by decide +kernel
theorem d_X_across_17 : decode b_X_across 17 = .ok (.iload_n 2, 1) := by decide +kernel
theorem d_X_across_18 : decode b_X_across 18 = .ok (.invokevirtual 124, 3) := by decide +kernel
theorem d_X_across_21 : decode b_X_across 21 = .ok (.goto 4, 3) := by decide +kernel
theorem d_X_across_24 : decode b_X_across 24 = .ok (.iconst (-1), 1) := by decide +kernel
theorem d_X_across_25 : decode b_X_across 25 = .ok (.ireturn, 1) := by decide +kernel
theorem d_X_fixed_0 : decode b_X_fixed 0 = .ok (.aload_n 0, 1) := by decide +kernel
theorem d_X_fixed_1 : decode b_X_fixed 1 = .ok (.getfield 37, 3) := by decide +kernel
theorem d_X_fixed_4 : decode b_X_fixed 4 = .ok (.iload_n 1, 1) := by decide +kernel
theorem d_X_fixed_5 : decode b_X_fixed 5 = .ok (.iload_n 2, 1) := by decide +kernel
theorem d_X_fixed_6 : decode b_X_fixed 6 = .ok (.invokevirtual 118, 3) := by decide +kernel
theorem d_X_fixed_9 : decode b_X_fixed 9 = .ok (.ifCond .eq 19, 3) := by decide +kernel
theorem d_X_fixed_12 : decode b_X_fixed 12 = .ok (.aload_n 0, 1) := by decide +kernel
theorem d_X_fixed_13 : decode b_X_fixed 13 = .ok (.getfield 37, 3) := by decide +kernel
theorem d_X_fixed_16 : decode b_X_fixed 16 = .ok (.iload_n 1, 1) := by decide +kernel
theorem d_X_fixed_17 : decode b_X_fixed 17 = .ok (.iload_n 2, 1) := by decide +kernel
theorem d_X_fixed_18 : decode b_X_fixed 18 = .ok (.invokevirtual 127, 3) := by decide +kernel
theorem d_X_fixed_21 : decode b_X_fixed 21 = .ok (.ifCond .eq 7, 3) := by decide +kernel
theorem d_X_fixed_24 : decode b_X_fixed 24 = .ok (.iconst 1, 1) := by decide +kernel
theorem d_X_fixed_25 : decode b_X_fixed 25 = .ok (.goto 4, 3) := by decide +kernel
theorem d_X_fixed_28 : decode b_X_fixed 28 = .ok (.iconst 0, 1) := by decide +kernel
theorem d_X_fixed_29 : decode b_X_fixed 29 = .ok (.ireturn, 1) := by decide +kernel
theorem d_X_locate_0 : decode b_X_locate 0 = .ok (.iconst 0, 1) := by decide +kernel
theorem d_X_locate_1 : decode b_X_locate 1 = .ok (.istore_n 3, 1) := by decide +kernel
theorem d_X_locate_2 : decode b_X_locate 2 = .ok (.iload_n 3, 1) := by decide +kernel
theorem d_X_locate_3 : decode b_X_locate 3 = .ok (.aload_n 0, 1) := by decide +kernel
theorem d_X_locate_4 : decode b_X_locate 4 = .ok (.getfield 37, 3) := by decide +kernel
theorem d_X_locate_7 : decode b_X_locate 7 = .ok (.getfield 117, 3) := by decide +kernel
theorem d_X_locate_10 : decode b_X_locate 10 = .ok (.if_icmp .ge 28, 3) := by decide +kernel
theorem d_X_locate_13 : decode b_X_locate 13 = .ok (.aload_n 0, 1) := by decide +kernel
theorem d_X_locate_14 : decode b_X_locate 14 = .ok (.getfield 37, 3) := by decide +kernel
theorem d_X_locate_17 : decode b_X_locate 17 = .ok (.aload_n 0, 1) := by decide +kernel
theorem d_X_locate_18 : decode b_X_locate 18 = .ok (.getfield 20, 3) := by decide +kernel
theorem d_X_locate_21 : decode b_X_locate 21 = .ok (.iload_n 3, 1) := by decide +kernel
theorem d_X_locate_22 : decode b_X_locate 22 = .ok (.iload_n 1, 1) := by decide +kernel
theorem d_X_locate_23 : decode b_X_locate 23 = .ok (.iload_n 2, 1) := by decide +kernel
theorem d_X_locate_24 : decode b_X_locate 24 = .ok (.invokevirtual 130, 3) := by decide +kernel
theorem d_X_locate_27 : decode b_X_locate 27 = .ok (.ifCond .eq 5, 3) := by decide +kernel
theorem d_X_locate_30 : decode b_X_locate 30 = .ok (.iload_n 3, 1) := by decide +kernel
theorem d_X_locate_31 : decode b_X_locate 31 = .ok (.ireturn, 1) := by decide +kernel
theorem d_X_locate_32 : decode b_X_locate 32 = .ok (.iinc 3 1, 3) := by decide +kernel
theorem d_X_locate_35 : decode b_X_locate 35 = .ok (.goto (-33), 3) := by decide +kernel
theorem d_X_locate_38 : decode b_X_locate 38 = .ok (.iconst (-1), 1) := by decide +kernel
theorem d_X_locate_39 : decode b_X_locate 39 = .ok (.ireturn, 1) := by decide +kernel
theorem d_X_degree_0 : decode b_X_degree 0 = .ok (.aload_n 0, 1) := by decide +kernel
theorem d_X_degree_1 : decode b_X_degree 1 = .ok (.getfield 20, 3) := by decide +kernel
theorem d_X_degree_4 : decode b_X_degree 4 = .ok (.iload_n 1, 1) := by decide +kernel
theorem d_X_degree_5 : decode b_X_degree 5 = .ok (.invokevirtual 67, 3) := by decide +kernel
theorem d_X_degree_8 : decode b_X_degree 8 = .ok (.ifCond .eq 14, 3) := by decide +kernel
theorem d_X_degree_11 : decode b_X_degree 11 = .ok (.aload_n 0, 1) := by decide +kernel
theorem d_X_degree_12 : decode b_X_degree 12 = .ok (.getfield 37, 3) := by decide +kernel
theorem d_X_degree_15 : decode b_X_degree 15 = .ok (.iload_n 1, 1) := by decide +kernel
theorem d_X_degree_16 : decode b_X_degree 16 = .ok (.invokevirtual 134, 3) := by decide +kernel
theorem d_X_degree_19 : decode b_X_degree 19 = .ok (.goto 4, 3) := by decide +kernel
theorem d_X_degree_22 : decode b_X_degree 22 = .ok (.iconst (-1), 1) := by decide +kernel
theorem d_X_degree_23 : decode b_X_degree 23 = .ok (.ireturn, 1) := by decide +kernel
theorem d_M_trianglesAt_0 : decode b_M_trianglesAt 0 = .ok (.iconst 0, 1) := by decide +kernel
theorem d_M_trianglesAt_1 : decode b_M_trianglesAt 1 = .ok (.istore_n 2, 1) := by decide +kernel
theorem d_M_trianglesAt_2 : decode b_M_trianglesAt 2 = .ok (.iconst 0, 1) := by decide +kernel
theorem d_M_trianglesAt_3 : decode b_M_trianglesAt 3 = .ok (.istore_n 3, 1) := by decide +kernel
theorem d_M_trianglesAt_4 : decode b_M_trianglesAt 4 = .ok (.iload_n 3, 1) := by decide +kernel
theorem d_M_trianglesAt_5 : decode b_M_trianglesAt 5 = .ok (.iconst 3, 1) := by decide +kernel
theorem d_M_trianglesAt_6 : decode b_M_trianglesAt 6 = .ok (.aload_n 0, 1) := by decide +kernel
theorem d_M_trianglesAt_7 : decode b_M_trianglesAt 7 = .ok (.getfield 25, 3) := by decide +kernel
theorem d_M_trianglesAt_10 : decode b_M_trianglesAt 10 = .ok (.imul, 1) := by decide +kernel
theorem d_M_trianglesAt_11 : decode b_M_trianglesAt 11 = .ok (.if_icmp .ge 22, 3) := by decide +kernel
theorem d_M_trianglesAt_14 : decode b_M_trianglesAt 14 = .ok (.aload_n 0, 1) := by decide +kernel
theorem d_M_trianglesAt_15 : decode b_M_trianglesAt 15 = .ok (.getfield 9, 3) := by decide +kernel
theorem d_M_trianglesAt_18 : decode b_M_trianglesAt 18 = .ok (.iload_n 3, 1) := by decide +kernel
theorem d_M_trianglesAt_19 : decode b_M_trianglesAt 19 = .ok (.iaload, 1) := by decide +kernel
theorem d_M_trianglesAt_20 : decode b_M_trianglesAt 20 = .ok (.iload_n 1, 1) := by decide +kernel
theorem d_M_trianglesAt_21 : decode b_M_trianglesAt 21 = .ok (.if_icmp .ne 6, 3) := by decide +kernel
theorem d_M_trianglesAt_24 : decode b_M_trianglesAt 24 = .ok (.iinc 2 1, 3) := by decide +kernel
theorem d_M_trianglesAt_27 : decode b_M_trianglesAt 27 = .ok (.iinc 3 1, 3) := by decide +kernel
theorem d_M_trianglesAt_30 : decode b_M_trianglesAt 30 = .ok (.goto (-26), 3) := by decide +kernel
theorem d_M_trianglesAt_33 : decode b_M_trianglesAt 33 = .ok (.iload_n 2, 1) := by decide +kernel
theorem d_M_trianglesAt_34 : decode b_M_trianglesAt 34 = .ok (.ireturn, 1) := by decide +kernel
theorem d_X_area_0 : decode b_X_area 0 = .ok (.lconst 0, 1) := by decide +kernel
theorem d_X_area_1 : decode b_X_area 1 = .ok (.lstore_n 1, 1) := by decide +kernel
theorem d_X_area_2 : decode b_X_area 2 = .ok (.iconst 0, 1) := by decide +kernel
theorem d_X_area_3 : decode b_X_area 3 = .ok (.istore_n 3, 1) := by decide +kernel
theorem d_X_area_4 : decode b_X_area 4 = .ok (.iload_n 3, 1) := by decide +kernel
theorem d_X_area_5 : decode b_X_area 5 = .ok (.aload_n 0, 1) := by decide +kernel
theorem d_X_area_6 : decode b_X_area 6 = .ok (.getfield 37, 3) := by decide +kernel
theorem d_X_area_9 : decode b_X_area 9 = .ok (.getfield 117, 3) := by decide +kernel
theorem d_X_area_12 : decode b_X_area 12 = .ok (.if_icmp .ge 24, 3) := by decide +kernel
theorem d_X_area_15 : decode b_X_area 15 = .ok (.lload_n 1, 1) := by decide +kernel
theorem d_X_area_16 : decode b_X_area 16 = .ok (.aload_n 0, 1) := by decide +kernel
theorem d_X_area_17 : decode b_X_area 17 = .ok (.getfield 37, 3) := by decide +kernel
theorem d_X_area_20 : decode b_X_area 20 = .ok (.aload_n 0, 1) := by decide +kernel
theorem d_X_area_21 : decode b_X_area 21 = .ok (.getfield 20, 3) := by decide +kernel
theorem d_X_area_24 : decode b_X_area 24 = .ok (.iload_n 3, 1) := by decide +kernel
theorem d_X_area_25 : decode b_X_area 25 = .ok (.invokevirtual 138, 3) := by decide +kernel
theorem d_X_area_28 : decode b_X_area 28 = .ok (.ladd, 1) := by decide +kernel
theorem d_X_area_29 : decode b_X_area 29 = .ok (.lstore_n 1, 1) := by decide +kernel
theorem d_X_area_30 : decode b_X_area 30 = .ok (.iinc 3 1, 3) := by decide +kernel
theorem d_X_area_33 : decode b_X_area 33 = .ok (.goto (-29), 3) := by decide +kernel
theorem d_X_area_36 : decode b_X_area 36 = .ok (.lload_n 1, 1) := by decide +kernel
theorem d_X_area_37 : decode b_X_area 37 = .ok (.lreturn, 1) := by decide +kernel
theorem d_M_doubleArea_0 : decode b_M_doubleArea 0 = .ok (.aload_n 0, 1) := by decide +kernel
theorem d_M_doubleArea_1 : decode b_M_doubleArea 1 = .ok (.iload_n 2, 1) := by decide +kernel
theorem d_M_doubleArea_2 : decode b_M_doubleArea 2 = .ok (.iconst 2, 1) := by decide +kernel
theorem d_M_doubleArea_3 : decode b_M_doubleArea 3 = .ok (.invokevirtual 29, 3) := by decide +kernel
theorem d_M_doubleArea_6 : decode b_M_doubleArea 6 = .ok (.istore_n 3, 1) := by decide +kernel
theorem d_M_doubleArea_7 : decode b_M_doubleArea 7 = .ok (.aload_n 1, 1) := by decide +kernel
theorem d_M_doubleArea_8 : decode b_M_doubleArea 8 = .ok (.aload_n 0, 1) := by decide +kernel
theorem d_M_doubleArea_9 : decode b_M_doubleArea 9 = .ok (.iload_n 2, 1) := by decide +kernel
theorem d_M_doubleArea_10 : decode b_M_doubleArea 10 = .ok (.iconst 0, 1) := by decide +kernel
theorem d_M_doubleArea_11 : decode b_M_doubleArea 11 = .ok (.invokevirtual 29, 3) := by decide +kernel
theorem d_M_doubleArea_14 : decode b_M_doubleArea 14 = .ok (.aload_n 0, 1) := by decide +kernel
theorem d_M_doubleArea_15 : decode b_M_doubleArea 15 = .ok (.iload_n 2, 1) := by decide +kernel
theorem d_M_doubleArea_16 : decode b_M_doubleArea 16 = .ok (.iconst 1, 1) := by decide +kernel
theorem d_M_doubleArea_17 : decode b_M_doubleArea 17 = .ok (.invokevirtual 29, 3) := by decide +kernel
theorem d_M_doubleArea_20 : decode b_M_doubleArea 20 = .ok (.aload_n 1, 1) := by decide +kernel
theorem d_M_doubleArea_21 : decode b_M_doubleArea 21 = .ok (.getfield 42, 3) := by decide +kernel
theorem d_M_doubleArea_24 : decode b_M_doubleArea 24 = .ok (.iload_n 3, 1) := by decide +kernel
theorem d_M_doubleArea_25 : decode b_M_doubleArea 25 = .ok (.iaload, 1) := by decide +kernel
theorem d_M_doubleArea_26 : decode b_M_doubleArea 26 = .ok (.aload_n 1, 1) := by decide +kernel
theorem d_M_doubleArea_27 : decode b_M_doubleArea 27 = .ok (.getfield 45, 3) := by decide +kernel
theorem d_M_doubleArea_30 : decode b_M_doubleArea 30 = .ok (.iload_n 3, 1) := by decide +kernel
theorem d_M_doubleArea_31 : decode b_M_doubleArea 31 = .ok (.iaload, 1) := by decide +kernel
theorem d_M_doubleArea_32 : decode b_M_doubleArea 32 = .ok (.invokevirtual 36, 3) := by decide +kernel
theorem d_M_doubleArea_35 : decode b_M_doubleArea 35 = .ok (.lreturn, 1) := by decide +kernel
theorem d_X_border_0 : decode b_X_border 0 = .ok (.aload_n 0, 1) := by decide +kernel
theorem d_X_border_1 : decode b_X_border 1 = .ok (.getfield 37, 3) := by decide +kernel
theorem d_X_border_4 : decode b_X_border 4 = .ok (.invokevirtual 142, 3) := by decide +kernel
theorem d_X_border_7 : decode b_X_border 7 = .ok (.ireturn, 1) := by decide +kernel
theorem d_M_openSides_0 : decode b_M_openSides 0 = .ok (.iconst 0, 1) := by decide +kernel
theorem d_M_openSides_1 : decode b_M_openSides 1 = .ok (.istore_n 1, 1) := by decide +kernel
theorem d_M_openSides_2 : decode b_M_openSides 2 = .ok (.iconst 0, 1) := by decide +kernel
theorem d_M_openSides_3 : decode b_M_openSides 3 = .ok (.istore_n 2, 1) := by decide +kernel
theorem d_M_openSides_4 : decode b_M_openSides 4 = .ok (.iload_n 2, 1) := by decide +kernel
theorem d_M_openSides_5 : decode b_M_openSides 5 = .ok (.aload_n 0, 1) := by decide +kernel
theorem d_M_openSides_6 : decode b_M_openSides 6 = .ok (.getfield 25, 3) := by decide +kernel
theorem d_M_openSides_9 : decode b_M_openSides 9 = .ok (.if_icmp .ge 35, 3) := by decide +kernel
theorem d_M_openSides_12 : decode b_M_openSides 12 = .ok (.iconst 0, 1) := by decide +kernel
theorem d_M_openSides_13 : decode b_M_openSides 13 = .ok (.istore_n 3, 1) := by decide +kernel
theorem d_M_openSides_14 : decode b_M_openSides 14 = .ok (.iload_n 3, 1) := by decide +kernel
theorem d_M_openSides_15 : decode b_M_openSides 15 = .ok (.iconst 3, 1) := by decide +kernel
theorem d_M_openSides_16 : decode b_M_openSides 16 = .ok (.if_icmp .ge 22, 3) := by decide +kernel
theorem d_M_openSides_19 : decode b_M_openSides 19 = .ok (.aload_n 0, 1) := by decide +kernel
theorem d_M_openSides_20 : decode b_M_openSides 20 = .ok (.iload_n 2, 1) := by decide +kernel
theorem d_M_openSides_21 : decode b_M_openSides 21 = .ok (.iload_n 3, 1) := by decide +kernel
theorem d_M_openSides_22 : decode b_M_openSides 22 = .ok (.invokevirtual 48, 3) := by decide +kernel
theorem d_M_openSides_25 : decode b_M_openSides 25 = .ok (.iconst (-1), 1) := by decide +kernel
theorem d_M_openSides_26 : decode b_M_openSides 26 = .ok (.if_icmp .ne 6, 3) := by decide +kernel
theorem d_M_openSides_29 : decode b_M_openSides 29 = .ok (.iinc 1 1, 3) := by decide +kernel
theorem d_M_openSides_32 : decode b_M_openSides 32 = .ok (.iinc 3 1, 3) := by decide +kernel
theorem d_M_openSides_35 : decode b_M_openSides 35 = .ok (.goto (-21), 3) := by decide +kernel
theorem d_M_openSides_38 : decode b_M_openSides 38 = .ok (.iinc 2 1, 3) := by decide +kernel
theorem d_M_openSides_41 : decode b_M_openSides 41 = .ok (.goto (-37), 3) := by decide +kernel
theorem d_M_openSides_44 : decode b_M_openSides 44 = .ok (.iload_n 1, 1) := by decide +kernel
theorem d_M_openSides_45 : decode b_M_openSides 45 = .ok (.ireturn, 1) := by decide +kernel
theorem d_X_vertices_0 : decode b_X_vertices 0 = .ok (.aload_n 0, 1) := by decide +kernel
theorem d_X_vertices_1 : decode b_X_vertices 1 = .ok (.getfield 20, 3) := by decide +kernel
theorem d_X_vertices_4 : decode b_X_vertices 4 = .ok (.getfield 63, 3) := by decide +kernel
theorem d_X_vertices_7 : decode b_X_vertices 7 = .ok (.ireturn, 1) := by decide +kernel
theorem d_X_segments_0 : decode b_X_segments 0 = .ok (.aload_n 0, 1) := by decide +kernel
theorem d_X_segments_1 : decode b_X_segments 1 = .ok (.getfield 25, 3) := by decide +kernel
theorem d_X_segments_4 : decode b_X_segments 4 = .ok (.getfield 82, 3) := by decide +kernel
theorem d_X_segments_7 : decode b_X_segments 7 = .ok (.ireturn, 1) := by decide +kernel
theorem d_X_place_0 : decode b_X_place 0 = .ok (.aload_n 0, 1) := by decide +kernel
theorem d_X_place_1 : decode b_X_place 1 = .ok (.getfield 20, 3) := by decide +kernel
theorem d_X_place_4 : decode b_X_place 4 = .ok (.iload_n 1, 1) := by decide +kernel
theorem d_X_place_5 : decode b_X_place 5 = .ok (.invokevirtual 67, 3) := by decide +kernel
theorem d_X_place_8 : decode b_X_place 8 = .ok (.ifCond .ne 5, 3) := by decide +kernel
theorem d_X_place_11 : decode b_X_place 11 = .ok (.iconst 0, 1) := by decide +kernel
theorem d_X_place_12 : decode b_X_place 12 = .ok (.ireturn, 1) := by decide +kernel
theorem d_X_place_13 : decode b_X_place 13 = .ok (.iload_n 2, 1) := by decide +kernel
theorem d_X_place_14 : decode b_X_place 14 = .ok (.ifCond .ne 13, 3) := by decide +kernel
theorem d_X_place_17 : decode b_X_place 17 = .ok (.aload_n 0, 1) := by decide +kernel
theorem d_X_place_18 : decode b_X_place 18 = .ok (.getfield 20, 3) := by decide +kernel
theorem d_X_place_21 : decode b_X_place 21 = .ok (.getfield 146, 3) := by decide +kernel
theorem d_X_place_24 : decode b_X_place 24 = .ok (.iload_n 1, 1) := by decide +kernel
theorem d_X_place_25 : decode b_X_place 25 = .ok (.iaload, 1) := by decide +kernel
theorem d_X_place_26 : decode b_X_place 26 = .ok (.ireturn, 1) := by decide +kernel
theorem d_X_place_27 : decode b_X_place 27 = .ok (.iload_n 2, 1) := by decide +kernel
theorem d_X_place_28 : decode b_X_place 28 = .ok (.iconst 1, 1) := by decide +kernel
theorem d_X_place_29 : decode b_X_place 29 = .ok (.if_icmp .ne 15, 3) := by decide +kernel
theorem d_X_place_32 : decode b_X_place 32 = .ok (.aload_n 0, 1) := by decide +kernel
theorem d_X_place_33 : decode b_X_place 33 = .ok (.getfield 20, 3) := by decide +kernel
theorem d_X_place_36 : decode b_X_place 36 = .ok (.getfield 150, 3) := by decide +kernel
theorem d_X_place_39 : decode b_X_place 39 = .ok (.iload_n 1, 1) := by decide +kernel
theorem d_X_place_40 : decode b_X_place 40 = .ok (.iaload, 1) := by decide +kernel
theorem d_X_place_41 : decode b_X_place 41 = .ok (.goto 4, 3) := by decide +kernel
theorem d_X_place_44 : decode b_X_place 44 = .ok (.iconst 0, 1) := by decide +kernel
theorem d_X_place_45 : decode b_X_place 45 = .ok (.ireturn, 1) := by decide +kernel
theorem d_R_init_0 : decode b_R_init 0 = .ok (.aload_n 0, 1) := by decide +kernel
theorem d_R_init_1 : decode b_R_init 1 = .ok (.invokespecial 1, 3) := by decide +kernel
theorem d_R_init_4 : decode b_R_init 4 = .ok (.aload_n 0, 1) := by decide +kernel
theorem d_R_init_5 : decode b_R_init 5 = .ok (.bipush 12, 2) := by decide +kernel
theorem d_R_init_7 : decode b_R_init 7 = .ok (.newarray .int, 2) := by decide +kernel
theorem d_R_init_9 : decode b_R_init 9 = .ok (.putfield 7, 3) := by decide +kernel
theorem d_R_init_12 : decode b_R_init 12 = .ok (.aload_n 0, 1) := by decide +kernel
theorem d_R_init_13 : decode b_R_init 13 = .ok (.bipush 12, 2) := by decide +kernel
theorem d_R_init_15 : decode b_R_init 15 = .ok (.newarray .int, 2) := by decide +kernel
theorem d_R_init_17 : decode b_R_init 17 = .ok (.putfield 13, 3) := by decide +kernel
theorem d_R_init_20 : decode b_R_init 20 = .ok (.aload_n 0, 1) := by decide +kernel
theorem d_R_init_21 : decode b_R_init 21 = .ok (.bipush 10, 2) := by decide +kernel
theorem d_R_init_23 : decode b_R_init 23 = .ok (.newarray .int, 2) := by decide +kernel
theorem d_R_init_25 : decode b_R_init 25 = .ok (.putfield 16, 3) := by decide +kernel
theorem d_R_init_28 : decode b_R_init 28 = .ok (.aload_n 0, 1) := by decide +kernel
theorem d_R_init_29 : decode b_R_init 29 = .ok (.bipush 10, 2) := by decide +kernel
theorem d_R_init_31 : decode b_R_init 31 = .ok (.newarray .int, 2) := by decide +kernel
theorem d_R_init_33 : decode b_R_init 33 = .ok (.putfield 19, 3) := by decide +kernel
theorem d_R_init_36 : decode b_R_init 36 = .ok (.aload_n 0, 1) := by decide +kernel
theorem d_R_init_37 : decode b_R_init 37 = .ok (.iconst 3, 1) := by decide +kernel
theorem d_R_init_38 : decode b_R_init 38 = .ok (.newarray .int, 2) := by decide +kernel
theorem d_R_init_40 : decode b_R_init 40 = .ok (.putfield 22, 3) := by decide +kernel
theorem d_R_init_43 : decode b_R_init 43 = .ok (.aload_n 0, 1) := by decide +kernel
