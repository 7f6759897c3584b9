theorem d_X_init_0 : decode b_X_init 0 = .ok (.aload_n 0, 1) := by decide +kernel
theorem d_X_init_1 : decode b_X_init 1 = .ok (.invokespecial 3, 3) := by decide +kernel
theorem d_X_init_4 : decode b_X_init 4 = .ok (.aload_n 0, 1) := by decide +kernel
theorem d_X_init_5 : decode b_X_init 5 = .ok (.new 9, 3) := by decide +kernel
theorem d_X_init_8 : decode b_X_init 8 = .ok (.dup, 1) := by decide +kernel
theorem d_X_init_9 : decode b_X_init 9 = .ok (.invokespecial 11, 3) := by decide +kernel
theorem d_X_init_12 : decode b_X_init 12 = .ok (.putfield 12, 3) := by decide +kernel
theorem d_X_init_15 : decode b_X_init 15 = .ok (.aload_n 0, 1) := by decide +kernel
theorem d_X_init_16 : decode b_X_init 16 = .ok (.aload_n 0, 1) := by decide +kernel
theorem d_X_init_17 : decode b_X_init 17 = .ok (.getfield 12, 3) := by decide +kernel
theorem d_X_init_20 : decode b_X_init 20 = .ok (.getfield 16, 3) := by decide +kernel
theorem d_X_init_23 : decode b_X_init 23 = .ok (.putfield 20, 3) := by decide +kernel
theorem d_X_init_26 : decode b_X_init 26 = .ok (.aload_n 0, 1) := by decide +kernel
theorem d_X_init_27 : decode b_X_init 27 = .ok (.aload_n 0, 1) := by decide +kernel
theorem d_X_init_28 : decode b_X_init 28 = .ok (.getfield 12, 3) := by decide +kernel
theorem d_X_init_31 : decode b_X_init 31 = .ok (.getfield 21, 3) := by decide +kernel
theorem d_X_init_34 : decode b_X_init 34 = .ok (.putfield 25, 3) := by decide +kernel
theorem d_X_init_37 : decode b_X_init 37 = .ok (.aload_n 0, 1) := by decide +kernel
theorem d_X_init_38 : decode b_X_init 38 = .ok (.new 26, 3) := by decide +kernel
theorem d_X_init_41 : decode b_X_init 41 = .ok (.dup, 1) := by decide +kernel
theorem d_X_init_42 : decode b_X_init 42 = .ok (.iconst 3, 1) := by decide +kernel
theorem d_X_init_43 : decode b_X_init 43 = .ok (.invokespecial 28, 3) := by decide +kernel
theorem d_X_init_46 : decode b_X_init 46 = .ok (.putfield 31, 3) := by decide +kernel
theorem d_X_init_49 : decode b_X_init 49 = .ok (.aload_n 0, 1) := by decide +kernel
theorem d_X_init_50 : decode b_X_init 50 = .ok (.new 34, 3) := by decide +kernel
theorem d_X_init_53 : decode b_X_init 53 = .ok (.dup, 1) := by decide +kernel
theorem d_X_init_54 : decode b_X_init 54 = .ok (.invokespecial 36, 3) := by decide +kernel
theorem d_X_init_57 : decode b_X_init 57 = .ok (.putfield 37, 3) := by decide +kernel
theorem d_X_init_60 : decode b_X_init 60 = .ok (.return_, 1) := by decide +kernel
theorem d_F_init_0 : decode b_F_init 0 = .ok (.aload_n 0, 1) := by decide +kernel
theorem d_F_init_1 : decode b_F_init 1 = .ok (.invokespecial 3, 3) := by decide +kernel
theorem d_F_init_4 : decode b_F_init 4 = .ok (.aload_n 0, 1) := by decide +kernel
theorem d_F_init_5 : decode b_F_init 5 = .ok (.new 9, 3) := by decide +kernel
theorem d_F_init_8 : decode b_F_init 8 = .ok (.dup, 1) := by decide +kernel
theorem d_F_init_9 : decode b_F_init 9 = .ok (.bipush 12, 2) := by decide +kernel
theorem d_F_init_11 : decode b_F_init 11 = .ok (.invokespecial 11, 3) := by decide +kernel
theorem d_F_init_14 : decode b_F_init 14 = .ok (.putfield 14, 3) := by decide +kernel
theorem d_F_init_17 : decode b_F_init 17 = .ok (.aload_n 0, 1) := by decide +kernel
theorem d_F_init_18 : decode b_F_init 18 = .ok (.new 20, 3) := by decide +kernel
theorem d_F_init_21 : decode b_F_init 21 = .ok (.dup, 1) := by decide +kernel
theorem d_F_init_22 : decode b_F_init 22 = .ok (.bipush 10, 2) := by decide +kernel
theorem d_F_init_24 : decode b_F_init 24 = .ok (.invokespecial 22, 3) := by decide +kernel
theorem d_F_init_27 : decode b_F_init 27 = .ok (.putfield 23, 3) := by decide +kernel
theorem d_F_init_30 : decode b_F_init 30 = .ok (.aload_n 0, 1) := by decide +kernel
theorem d_F_init_31 : decode b_F_init 31 = .ok (.new 20, 3) := by decide +kernel
theorem d_F_init_34 : decode b_F_init 34 = .ok (.dup, 1) := by decide +kernel
theorem d_F_init_35 : decode b_F_init 35 = .ok (.bipush 30, 2) := by decide +kernel
theorem d_F_init_37 : decode b_F_init 37 = .ok (.invokespecial 22, 3) := by decide +kernel
theorem d_F_init_40 : decode b_F_init 40 = .ok (.putfield 27, 3) := by decide +kernel
theorem d_F_init_43 : decode b_F_init 43 = .ok (.aload_n 0, 1) := by decide +kernel
theorem d_F_init_44 : decode b_F_init 44 = .ok (.sipush 144, 3) := by decide +kernel
theorem d_F_init_47 : decode b_F_init 47 = .ok (.newarray .int, 2) := by decide +kernel
theorem d_F_init_49 : decode b_F_init 49 = .ok (.putfield 30, 3) := by decide +kernel
theorem d_F_init_52 : decode b_F_init 52 = .ok (.return_, 1) := by decide +kernel
theorem d_P_init_0 : decode b_P_init 0 = .ok (.aload_n 0, 1) := by decide +kernel
theorem d_P_init_1 : decode b_P_init 1 = .ok (.invokespecial 3, 3) := by decide +kernel
theorem d_P_init_4 : decode b_P_init 4 = .ok (.aload_n 0, 1) := by decide +kernel
theorem d_P_init_5 : decode b_P_init 5 = .ok (.iload_n 1, 1) := by decide +kernel
theorem d_P_init_6 : decode b_P_init 6 = .ok (.newarray .int, 2) := by decide +kernel
theorem d_P_init_8 : decode b_P_init 8 = .ok (.putfield 9, 3) := by decide +kernel
theorem d_P_init_11 : decode b_P_init 11 = .ok (.aload_n 0, 1) := by decide +kernel
theorem d_P_init_12 : decode b_P_init 12 = .ok (.iload_n 1, 1) := by decide +kernel
theorem d_P_init_13 : decode b_P_init 13 = .ok (.newarray .int, 2) := by decide +kernel
theorem d_P_init_15 : decode b_P_init 15 = .ok (.putfield 15, 3) := by decide +kernel
theorem d_P_init_18 : decode b_P_init 18 = .ok (.aload_n 0, 1) := by decide +kernel
theorem d_P_init_19 : decode b_P_init 19 = .ok (.iconst 0, 1) := by decide +kernel
theorem d_P_init_20 : decode b_P_init 20 = .ok (.putfield 18, 3) := by decide +kernel
theorem d_P_init_23 : decode b_P_init 23 = .ok (.return_, 1) := by decide +kernel
theorem d_L_init_0 : decode b_L_init 0 = .ok (.aload_n 0, 1) := by decide +kernel
theorem d_L_init_1 : decode b_L_init 1 = .ok (.invokespecial 3, 3) := by decide +kernel
theorem d_L_init_4 : decode b_L_init 4 = .ok (.aload_n 0, 1) := by decide +kernel
theorem d_L_init_5 : decode b_L_init 5 = .ok (.iload_n 1, 1) := by decide +kernel
theorem d_L_init_6 : decode b_L_init 6 = .ok (.newarray .int, 2) := by decide +kernel
theorem d_L_init_8 : decode b_L_init 8 = .ok (.putfield 9, 3) := by decide +kernel
theorem d_L_init_11 : decode b_L_init 11 = .ok (.aload_n 0, 1) := by decide +kernel
theorem d_L_init_12 : decode b_L_init 12 = .ok (.iload_n 1, 1) := by decide +kernel
theorem d_L_init_13 : decode b_L_init 13 = .ok (.newarray .int, 2) := by decide +kernel
theorem d_L_init_15 : decode b_L_init 15 = .ok (.putfield 15, 3) := by decide +kernel
theorem d_L_init_18 : decode b_L_init 18 = .ok (.aload_n 0, 1) := by decide +kernel
theorem d_L_init_19 : decode b_L_init 19 = .ok (.bipush 12, 2) := by decide +kernel
theorem d_L_init_21 : decode b_L_init 21 = .ok (.newarray .int, 2) := by decide +kernel
theorem d_L_init_23 : decode b_L_init 23 = .ok (.putfield 18, 3) := by decide +kernel
theorem d_L_init_26 : decode b_L_init 26 = .ok (.aload_n 0, 1) := by decide +kernel
theorem d_L_init_27 : decode b_L_init 27 = .ok (.iconst 0, 1) := by decide +kernel
theorem d_L_init_28 : decode b_L_init 28 = .ok (.putfield 21, 3) := by decide +kernel
theorem d_L_init_31 : decode b_L_init 31 = .ok (.return_, 1) := by decide +kernel
theorem d_M_init_0 : decode b_M_init 0 = .ok (.aload_n 0, 1) := by decide +kernel
theorem d_M_init_1 : decode b_M_init 1 = .ok (.invokespecial 3, 3) := by decide +kernel
theorem d_M_init_4 : decode b_M_init 4 = .ok (.aload_n 0, 1) := by decide +kernel
theorem d_M_init_5 : decode b_M_init 5 = .ok (.bipush 57, 2) := by decide +kernel
theorem d_M_init_7 : decode b_M_init 7 = .ok (.newarray .int, 2) := by decide +kernel
theorem d_M_init_9 : decode b_M_init 9 = .ok (.putfield 9, 3) := by decide +kernel
theorem d_M_init_12 : decode b_M_init 12 = .ok (.aload_n 0, 1) := by decide +kernel
theorem d_M_init_13 : decode b_M_init 13 = .ok (.bipush 19, 2) := by decide +kernel
theorem d_M_init_15 : decode b_M_init 15 = .ok (.newarray .boolean, 2) := by decide +kernel
theorem d_M_init_17 : decode b_M_init 17 = .ok (.putfield 15, 3) := by decide +kernel
theorem d_M_init_20 : decode b_M_init 20 = .ok (.aload_n 0, 1) := by decide +kernel
theorem d_M_init_21 : decode b_M_init 21 = .ok (.sipush 144, 3) := by decide +kernel
theorem d_M_init_24 : decode b_M_init 24 = .ok (.newarray .int, 2) := by decide +kernel
theorem d_M_init_26 : decode b_M_init 26 = .ok (.putfield 19, 3) := by decide +kernel
theorem d_M_init_29 : decode b_M_init 29 = .ok (.aload_n 0, 1) := by decide +kernel
theorem d_M_init_30 : decode b_M_init 30 = .ok (.bipush 12, 2) := by decide +kernel
theorem d_M_init_32 : decode b_M_init 32 = .ok (.newarray .int, 2) := by decide +kernel
theorem d_M_init_34 : decode b_M_init 34 = .ok (.putfield 22, 3) := by decide +kernel
theorem d_M_init_37 : decode b_M_init 37 = .ok (.aload_n 0, 1) := by decide +kernel
theorem d_M_init_38 : decode b_M_init 38 = .ok (.iconst 0, 1) := by decide +kernel
theorem d_M_init_39 : decode b_M_init 39 = .ok (.putfield 25, 3) := by decide +kernel
theorem d_M_init_42 : decode b_M_init 42 = .ok (.return_, 1) := by decide +kernel
theorem d_X_vertex_0 : decode b_X_vertex 0 = .ok (.iload_n 1, 1) := by decide +kernel
theorem d_X_vertex_1 : decode b_X_vertex 1 = .ok (.iload_n 2, 1) := by decide +kernel
theorem d_X_vertex_2 : decode b_X_vertex 2 = .ok (.invokestatic 41, 3) := by decide +kernel
theorem d_X_vertex_5 : decode b_X_vertex 5 = .ok (.ifCond .ne 6, 3) := by decide +kernel
theorem d_X_vertex_8 : decode b_X_vertex 8 = .ok (.bipush (-2), 2) := by decide +kernel
theorem d_X_vertex_10 : decode b_X_vertex 10 = .ok (.ireturn, 1) := by decide +kernel
theorem d_X_vertex_11 : decode b_X_vertex 11 = .ok (.aload_n 0, 1) := by decide +kernel
theorem d_X_vertex_12 : decode b_X_vertex 12 = .ok (.getfield 20, 3) := by decide +kernel
theorem d_X_vertex_15 : decode b_X_vertex 15 = .ok (.iload_n 1, 1) := by decide +kernel
theorem d_X_vertex_16 : decode b_X_vertex 16 = .ok (.iload_n 2, 1) := by decide +kernel
theorem d_X_vertex_17 : decode b_X_vertex 17 = .ok (.invokevirtual 45, 3) := by decide +kernel
theorem d_X_vertex_20 : decode b_X_vertex 20 = .ok (.istore_n 3, 1) := by decide +kernel
theorem d_X_vertex_21 : decode b_X_vertex 21 = .ok (.iload_n 3, 1) := by decide +kernel
theorem d_X_vertex_22 : decode b_X_vertex 22 = .ok (.iconst (-1), 1) := by decide +kernel
theorem d_X_vertex_23 : decode b_X_vertex 23 = .ok (.if_icmp .eq 5, 3) := by decide +kernel
theorem d_X_vertex_26 : decode b_X_vertex 26 = .ok (.iload_n 3, 1) := by decide +kernel
theorem d_X_vertex_27 : decode b_X_vertex 27 = .ok (.ireturn, 1) := by decide +kernel
theorem d_X_vertex_28 : decode b_X_vertex 28 = .ok (.aload_n 0, 1) := by decide +kernel
theorem d_X_vertex_29 : decode b_X_vertex 29 = .ok (.getfield 20, 3) := by decide +kernel
theorem d_X_vertex_32 : decode b_X_vertex 32 = .ok (.invokevirtual 49, 3) := by decide +kernel
theorem d_X_vertex_35 : decode b_X_vertex 35 = .ok (.ifCond .eq 6, 3) := by decide +kernel
theorem d_X_vertex_38 : decode b_X_vertex 38 = .ok (.bipush (-3), 2) := by decide +kernel
theorem d_X_vertex_40 : decode b_X_vertex 40 = .ok (.ireturn, 1) := by decide +kernel
theorem d_X_vertex_41 : decode b_X_vertex 41 = .ok (.aload_n 0, 1) := by decide +kernel
theorem d_X_vertex_42 : decode b_X_vertex 42 = .ok (.getfield 25, 3) := by decide +kernel
theorem d_X_vertex_45 : decode b_X_vertex 45 = .ok (.aload_n 0, 1) := by decide +kernel
theorem d_X_vertex_46 : decode b_X_vertex 46 = .ok (.getfield 20, 3) := by decide +kernel
theorem d_X_vertex_49 : decode b_X_vertex 49 = .ok (.iload_n 1, 1) := by decide +kernel
theorem d_X_vertex_50 : decode b_X_vertex 50 = .ok (.iload_n 2, 1) := by decide +kernel
theorem d_X_vertex_51 : decode b_X_vertex 51 = .ok (.invokevirtual 53, 3) := by decide +kernel
theorem d_X_vertex_54 : decode b_X_vertex 54 = .ok (.ifCond .eq 6, 3) := by decide +kernel
theorem d_X_vertex_57 : decode b_X_vertex 57 = .ok (.bipush (-4), 2) := by decide +kernel
theorem d_X_vertex_59 : decode b_X_vertex 59 = .ok (.ireturn, 1) := by decide +kernel
theorem d_X_vertex_60 : decode b_X_vertex 60 = .ok (.aload_n 0, 1) := by decide +kernel
theorem d_X_vertex_61 : decode b_X_vertex 61 = .ok (.getfield 20, 3) := by decide +kernel
theorem d_X_vertex_64 : decode b_X_vertex 64 = .ok (.iload_n 1, 1) := by decide +kernel
theorem d_X_vertex_65 : decode b_X_vertex 65 = .ok (.iload_n 2, 1) := by decide +kernel
theorem d_X_vertex_66 : decode b_X_vertex 66 = .ok (.invokevirtual 59, 3) := by decide +kernel
theorem d_X_vertex_69 : decode b_X_vertex 69 = .ok (.aload_n 0, 1) := by decide +kernel
theorem d_X_vertex_70 : decode b_X_vertex 70 = .ok (.getfield 20, 3) := by decide +kernel
theorem d_X_vertex_73 : decode b_X_vertex 73 = .ok (.getfield 63, 3) := by decide +kernel
theorem d_X_vertex_76 : decode b_X_vertex 76 = .ok (.iconst 1, 1) := by decide +kernel
theorem d_X_vertex_77 : decode b_X_vertex 77 = .ok (.isub, 1) := by decide +kernel
theorem d_X_vertex_78 : decode b_X_vertex 78 = .ok (.ireturn, 1) := by decide +kernel
theorem d_X_isNear_0 : decode b_X_isNear 0 = .ok (.iload_n 0, 1) := by decide +kernel
theorem d_X_isNear_1 : decode b_X_isNear 1 = .ok (.ldc 153, 2) := by decide +kernel
theorem d_X_isNear_3 : decode b_X_isNear 3 = .ok (.if_icmp .lt 25, 3) := by decide +kernel
theorem d_X_isNear_6 : decode b_X_isNear 6 = .ok (.iload_n 0, 1) := by decide +kernel
theorem d_X_isNear_7 : decode b_X_isNear 7 = .ok (.ldc 154, 2) := by decide +kernel
theorem d_X_isNear_9 : decode b_X_isNear 9 = .ok (.if_icmp .gt 19, 3) := by decide +kernel
theorem d_X_isNear_12 : decode b_X_isNear 12 = .ok (.iload_n 1, 1) := by decide +kernel
theorem d_X_isNear_13 : decode b_X_isNear 13 = .ok (.ldc 153, 2) := by decide +kernel
theorem d_X_isNear_15 : decode b_X_isNear 15 = .ok (.if_icmp .lt 13, 3) := by decide +kernel
theorem d_X_isNear_18 : decode b_X_isNear 18 = .ok (.iload_n 1, 1) := by decide +kernel
theorem d_X_isNear_19 : decode b_X_isNear 19 = .ok (.ldc 154, 2) := by decide +kernel
theorem d_X_isNear_21 : decode b_X_isNear 21 = .ok (.if_icmp .gt 7, 3) := by decide +kernel
theorem d_X_isNear_24 : decode b_X_isNear 24 = .ok (.iconst 1, 1) := by decide +kernel
theorem d_X_isNear_25 : decode b_X_isNear 25 = .ok (.goto 4, 3) := by decide +kernel
theorem d_X_isNear_28 : decode b_X_isNear 28 = .ok (.iconst 0, 1) := by decide +kernel
theorem d_X_isNear_29 : decode b_X_isNear 29 = .ok (.ireturn, 1) := by decide +kernel
theorem d_P_numberAt_0 : decode b_P_numberAt 0 = .ok (.iconst 0, 1) := by decide +kernel
theorem d_P_numberAt_1 : decode b_P_numberAt 1 = .ok (.istore_n 3, 1) := by decide +kernel
theorem d_P_numberAt_2 : decode b_P_numberAt 2 = .ok (.iload_n 3, 1) := by decide +kernel
theorem d_P_numberAt_3 : decode b_P_numberAt 3 = .ok (.aload_n 0, 1) := by decide +kernel
theorem d_P_numberAt_4 : decode b_P_numberAt 4 = .ok (.getfield 18, 3) := by decide +kernel
theorem d_P_numberAt_7 : decode b_P_numberAt 7 = .ok (.if_icmp .ge 31, 3) := by decide +kernel
theorem d_P_numberAt_10 : decode b_P_numberAt 10 = .ok (.aload_n 0, 1) := by decide +kernel
theorem d_P_numberAt_11 : decode b_P_numberAt 11 = .ok (.getfield 9, 3) := by decide +kernel
theorem d_P_numberAt_14 : decode b_P_numberAt 14 = .ok (.iload_n 3, 1) := by decide +kernel
theorem d_P_numberAt_15 : decode b_P_numberAt 15 = .ok (.iaload, 1) := by decide +kernel
theorem d_P_numberAt_16 : decode b_P_numberAt 16 = .ok (.iload_n 1, 1) := by decide +kernel
theorem d_P_numberAt_17 : decode b_P_numberAt 17 = .ok (.if_icmp .ne 15, 3) := by decide +kernel
theorem d_P_numberAt_20 : decode b_P_numberAt 20 = .ok (.aload_n 0, 1) := by decide +kernel
theorem d_P_numberAt_21 : decode b_P_numberAt 21 = .ok (.getfield 15, 3) := by decide +kernel
theorem d_P_numberAt_24 : decode b_P_numberAt 24 = .ok (.iload_n 3, 1) := by decide +kernel
theorem d_P_numberAt_25 : decode b_P_numberAt 25 = .ok (.iaload, 1) := by decide +kernel
theorem d_P_numberAt_26 : decode b_P_numberAt 26 = .ok (.iload_n 2, 1) := by decide +kernel
theorem d_P_numberAt_27 : decode b_P_numberAt 27 = .ok (.if_icmp .ne 5, 3) := by decide +kernel
theorem d_P_numberAt_30 : decode b_P_numberAt 30 = .ok (.iload_n 3, 1) := by decide +kernel
theorem d_P_numberAt_31 : decode b_P_numberAt 31 = .ok (.ireturn, 1) := by decide +kernel
theorem d_P_numberAt_32 : decode b_P_numberAt 32 = .ok (.iinc 3 1, 3) := by decide +kernel
theorem d_P_numberAt_35 : decode b_P_numberAt 35 = .ok (.goto (-33), 3) := by decide +kernel
theorem d_P_numberAt_38 : decode b_P_numberAt 38 = .ok (.iconst (-1), 1) := by decide +kernel
theorem d_P_numberAt_39 : decode b_P_numberAt 39 = .ok (.ireturn, 1) := by decide +kernel
theorem d_P_isFull_0 : decode b_P_isFull 0 = .ok (.aload_n 0, 1) := by decide +kernel
theorem d_P_isFull_1 : decode b_P_isFull 1 = .ok (.getfield 18, 3) := by decide +kernel
theorem d_P_isFull_4 : decode b_P_isFull 4 = .ok (.aload_n 0, 1) := by decide +kernel
theorem d_P_isFull_5 : decode b_P_isFull 5 = .ok (.getfield 9, 3) := by decide +kernel
theorem d_P_isFull_8 : decode b_P_isFull 8 = .ok (.arraylength, 1) := by decide +kernel
theorem d_P_isFull_9 : decode b_P_isFull 9 = .ok (.if_icmp .lt 7, 3) := by decide +kernel
theorem d_P_isFull_12 : decode b_P_isFull 12 = .ok (.iconst 1, 1) := by decide +kernel
theorem d_P_isFull_13 : decode b_P_isFull 13 = .ok (.goto 4, 3) := by decide +kernel
theorem d_P_isFull_16 : decode b_P_isFull 16 = .ok (.iconst 0, 1) := by decide +kernel
theorem d_P_isFull_17 : decode b_P_isFull 17 = .ok (.ireturn, 1) := by decide +kernel
theorem d_L_anyThrough_0 : decode b_L_anyThrough 0 = .ok (.iconst 0, 1) := by decide +kernel
theorem d_L_anyThrough_1 : decode b_L_anyThrough 1 = .ok (.istore 4, 2) := by decide +kernel
theorem d_L_anyThrough_3 : decode b_L_anyThrough 3 = .ok (.iload 4, 2) := by decide +kernel
theorem d_L_anyThrough_5 : decode b_L_anyThrough 5 = .ok (.aload_n 0, 1) := by decide +kernel
theorem d_L_anyThrough_6 : decode b_L_anyThrough 6 = .ok (.getfield 21, 3) := by decide +kernel
theorem d_L_anyThrough_9 : decode b_L_anyThrough 9 = .ok (.if_icmp .ge 34, 3) := by decide +kernel
theorem d_L_anyThrough_12 : decode b_L_anyThrough 12 = .ok (.aload_n 1, 1) := by decide +kernel
theorem d_L_anyThrough_13 : decode b_L_anyThrough 13 = .ok (.aload_n 0, 1) := by decide +kernel
theorem d_L_anyThrough_14 : decode b_L_anyThrough 14 = .ok (.getfield 9, 3) := by decide +kernel
theorem d_L_anyThrough_17 : decode b_L_anyThrough 17 = .ok (.iload 4, 2) := by decide +kernel
theorem d_L_anyThrough_19 : decode b_L_anyThrough 19 = .ok (.iaload, 1) := by decide +kernel
theorem d_L_anyThrough_20 : decode b_L_anyThrough 20 = .ok (.aload_n 0, 1) := by decide +kernel
theorem d_L_anyThrough_21 : decode b_L_anyThrough 21 = .ok (.getfield 15, 3) := by decide +kernel
theorem d_L_anyThrough_24 : decode b_L_anyThrough 24 = .ok (.iload 4, 2) := by decide +kernel
theorem d_L_anyThrough_26 : decode b_L_anyThrough 26 = .ok (.iaload, 1) := by decide +kernel
theorem d_L_anyThrough_27 : decode b_L_anyThrough 27 = .ok (.iload_n 2, 1) := by decide +kernel
theorem d_L_anyThrough_28 : decode b_L_anyThrough 28 = .ok (.iload_n 3, 1) := by decide +kernel
theorem d_L_anyThrough_29 : decode b_L_anyThrough 29 = .ok (.invokevirtual 39, 3) := by decide +kernel
theorem d_L_anyThrough_32 : decode b_L_anyThrough 32 = .ok (.ifCond .eq 5, 3) := by decide +kernel
theorem d_L_anyThrough_35 : decode b_L_anyThrough 35 = .ok (.iconst 1, 1) := by decide +kernel
theorem d_L_anyThrough_36 : decode b_L_anyThrough 36 = .ok (.ireturn, 1) := by decide +kernel
theorem d_L_anyThrough_37 : decode b_L_anyThrough 37 = .ok (.iinc 4 1, 3) := by decide +kernel
theorem d_L_anyThrough_40 : decode b_L_anyThrough 40 = .ok (.goto (-37), 3) := by decide +kernel
theorem d_L_anyThrough_43 : decode b_L_anyThrough 43 = .ok (.iconst 0, 1) := by decide +kernel
theorem d_L_anyThrough_44 : decode b_L_anyThrough 44 = .ok (.ireturn, 1) := by decide +kernel
theorem d_P_isBetween_0 : decode b_P_isBetween 0 = .ok (.iload_n 3, 1) := by decide +kernel
theorem d_P_isBetween_1 : decode b_P_isBetween 1 = .ok (.aload_n 0, 1) := by decide +kernel
theorem d_P_isBetween_2 : decode b_P_isBetween 2 = .ok (.getfield 9, 3) := by decide +kernel
theorem d_P_isBetween_5 : decode b_P_isBetween 5 = .ok (.iload_n 1, 1) := by decide +kernel
theorem d_P_isBetween_6 : decode b_P_isBetween 6 = .ok (.iaload, 1) := by decide +kernel
theorem d_P_isBetween_7 : decode b_P_isBetween 7 = .ok (.aload_n 0, 1) := by decide +kernel
theorem d_P_isBetween_8 : decode b_P_isBetween 8 = .ok (.getfield 9, 3) := by decide +kernel
theorem d_P_isBetween_11 : decode b_P_isBetween 11 = .ok (.iload_n 2, 1) := by decide +kernel
theorem d_P_isBetween_12 : decode b_P_isBetween 12 = .ok (.iaload, 1) := by decide +kernel
theorem d_P_isBetween_13 : decode b_P_isBetween 13 = .ok (.invokestatic 44, 3) := by decide +kernel
theorem d_P_isBetween_16 : decode b_P_isBetween 16 = .ok (.if_icmp .lt 80, 3) := by decide +kernel
theorem d_P_isBetween_19 : decode b_P_isBetween 19 = .ok (.iload_n 3, 1) := by decide +kernel
theorem d_P_isBetween_20 : decode b_P_isBetween 20 = .ok (.aload_n 0, 1) := by decide +kernel
theorem d_P_isBetween_21 : decode b_P_isBetween 21 = .ok (.getfield 9, 3) := by decide +kernel
theorem d_P_isBetween_24 : decode b_P_isBetween 24 = .ok (.iload_n 1, 1) := by decide +kernel
theorem d_P_isBetween_25 : decode b_P_isBetween 25 = .ok (.iaload, 1) := by decide +kernel
theorem d_P_isBetween_26 : decode b_P_isBetween 26 = .ok (.aload_n 0, 1) := by decide +kernel
theorem d_P_isBetween_27 : decode b_P_isBetween 27 = .ok (.getfield 9, 3) := by decide +kernel
theorem d_P_isBetween_30 : decode b_P_isBetween 30 = .ok (.iload_n 2, 1) := by decide +kernel
theorem d_P_isBetween_31 : decode b_P_isBetween 31 = .ok (.iaload, 1) := by decide +kernel
theorem d_P_isBetween_32 : decode b_P_isBetween 32 = .ok (.invokestatic 50, 3) := by decide +kernel
theorem d_P_isBetween_35 : decode b_P_isBetween 35 = .ok (.if_icmp .gt 61, 3) := by decide +kernel
theorem d_P_isBetween_38 : decode b_P_isBetween 38 = .ok (.iload 4, 2) := by decide +kernel
theorem d_P_isBetween_40 : decode b_P_isBetween 40 = .ok (.aload_n 0, 1) := by decide +kernel
theorem d_P_isBetween_41 : decode b_P_isBetween 41 = .ok (.getfield 15, 3) := by decide +kernel
theorem d_P_isBetween_44 : decode b_P_isBetween 44 = .ok (.iload_n 1, 1) := by decide +kernel
theorem d_P_isBetween_45 : decode b_P_isBetween 45 = .ok (.iaload, 1) := by decide +kernel
theorem d_P_isBetween_46 : decode b_P_isBetween 46 = .ok (.aload_n 0, 1) := by decide +kernel
theorem d_P_isBetween_47 : decode b_P_isBetween 47 = .ok (.getfield 15, 3) := by decide +kernel
theorem d_P_isBetween_50 : decode b_P_isBetween 50 = .ok (.iload_n 2, 1) := by decide +kernel
theorem d_P_isBetween_51 : decode b_P_isBetween 51 = .ok (.iaload, 1) := by decide +kernel
theorem d_P_isBetween_52 : decode b_P_isBetween 52 = .ok (.invokestatic 44, 3) := by decide +kernel
theorem d_P_isBetween_55 : decode b_P_isBetween 55 = .ok (.if_icmp .lt 41, 3) := by decide +kernel
theorem d_P_isBetween_58 : decode b_P_isBetween 58 = .ok (.iload 4, 2) := by decide +kernel
theorem d_P_isBetween_60 : decode b_P_isBetween 60 = .ok (.aload_n 0, 1) := by decide +kernel
theorem d_P_isBetween_61 : decode b_P_isBetween 61 = .ok (.getfield 15, 3) := by decide +kernel
theorem d_P_isBetween_64 : decode b_P_isBetween 64 = .ok (.iload_n 1, 1) := by decide +kernel
theorem d_P_isBetween_65 : decode b_P_isBetween 65 = .ok (.iaload, 1) := by decide +kernel
theorem d_P_isBetween_66 : decode b_P_isBetween 66 = .ok (.aload_n 0, 1) := by decide +kernel
theorem d_P_isBetween_67 : decode b_P_isBetween 67 = .ok (.getfield 15, 3) := by decide +kernel
theorem d_P_isBetween_70 : decode b_P_isBetween 70 = .ok (.iload_n 2, 1) := by decide +kernel
theorem d_P_isBetween_71 : decode b_P_isBetween 71 = .ok (.iaload, 1) := by decide +kernel
theorem d_P_isBetween_72 : decode b_P_isBetween 72 = .ok (.invokestatic 50, 3) := by decide +kernel
theorem d_P_isBetween_75 : decode b_P_isBetween 75 = .ok (.if_icmp .gt 21, 3) := by decide +kernel
theorem d_P_isBetween_78 : decode b_P_isBetween 78 = .ok (.aload_n 0, 1) := by decide +kernel
theorem d_P_isBetween_79 : decode b_P_isBetween 79 = .ok (.iload_n 1, 1) := by decide +kernel
theorem d_P_isBetween_80 : decode b_P_isBetween 80 = .ok (.iload_n 2, 1) := by decide +kernel
theorem d_P_isBetween_81 : decode b_P_isBetween 81 = .ok (.iload_n 3, 1) := by decide +kernel
theorem d_P_isBetween_82 : decode b_P_isBetween 82 = .ok (.iload 4, 2) := by decide +kernel
theorem d_P_isBetween_84 : decode b_P_isBetween 84 = .ok (.invokevirtual 26, 3) := by decide +kernel
theorem d_P_isBetween_87 : decode b_P_isBetween 87 = .ok (.lconst 0, 1) := by decide +kernel
theorem d_P_isBetween_88 : decode b_P_isBetween 88 = .ok (.lcmp, 1) := by decide +kernel
theorem d_P_isBetween_89 : decode b_P_isBetween 89 = .ok (.ifCond .ne 7, 3) := by decide +kernel
theorem d_P_isBetween_92 : decode b_P_isBetween 92 = .ok (.iconst 1, 1) := by decide +kernel
theorem d_P_isBetween_93 : decode b_P_isBetween 93 = .ok (.goto 4, 3) := by decide +kernel
theorem d_P_isBetween_96 : decode b_P_isBetween 96 = .ok (.iconst 0, 1) := by decide +kernel
theorem d_P_isBetween_97 : decode b_P_isBetween 97 = .ok (.ireturn, 1) := by decide +kernel
theorem d_P_leftness_0 : decode b_P_leftness 0 = .ok (.aload_n 0, 1) := by decide +kernel
theorem d_P_leftness_1 : decode b_P_leftness 1 = .ok (.getfield 9, 3) := by decide +kernel
theorem d_P_leftness_4 : decode b_P_leftness 4 = .ok (.iload_n 2, 1) := by decide +kernel
theorem d_P_leftness_5 : decode b_P_leftness 5 = .ok (.iaload, 1) := by decide +kernel
theorem d_P_leftness_6 : decode b_P_leftness 6 = .ok (.i2l, 1) := by decide +kernel
theorem d_P_leftness_7 : decode b_P_leftness 7 = .ok (.aload_n 0, 1) := by decide +kernel
theorem d_P_leftness_8 : decode b_P_leftness 8 = .ok (.getfield 9, 3) := by decide +kernel
theorem d_P_leftness_11 : decode b_P_leftness 11 = .ok (.iload_n 1, 1) := by decide +kernel
theorem d_P_leftness_12 : decode b_P_leftness 12 = .ok (.iaload, 1) := by decide +kernel
theorem d_P_leftness_13 : decode b_P_leftness 13 = .ok (.i2l, 1) := by decide +kernel
theorem d_P_leftness_14 : decode b_P_leftness 14 = .ok (.lsub, 1) := by decide +kernel
theorem d_P_leftness_15 : decode b_P_leftness 15 = .ok (.lstore 5, 2) := by decide +kernel
theorem d_P_leftness_17 : decode b_P_leftness 17 = .ok (.aload_n 0, 1) := by decide +kernel
theorem d_P_leftness_18 : decode b_P_leftness 18 = .ok (.getfield 15, 3) := by decide +kernel
theorem d_P_leftness_21 : decode b_P_leftness 21 = .ok (.iload_n 2, 1) := by decide +kernel
theorem d_P_leftness_22 : decode b_P_leftness 22 = .ok (.iaload, 1) := by decide +kernel
theorem d_P_leftness_23 : decode b_P_leftness 23 = .ok (.i2l, 1) := by decide +kernel
theorem d_P_leftness_24 : decode b_P_leftness 24 = .ok (.aload_n 0, 1) := by decide +kernel
theorem d_P_leftness_25 : decode b_P_leftness 25 = .ok (.getfield 15, 3) := by decide +kernel
theorem d_P_leftness_28 : decode b_P_leftness 28 = .ok (.iload_n 1, 1) := by decide +kernel
theorem d_P_leftness_29 : decode b_P_leftness 29 = .ok (.iaload, 1) := by decide +kernel
theorem d_P_leftness_30 : decode b_P_leftness 30 = .ok (.i2l, 1) := by decide +kernel
theorem d_P_leftness_31 : decode b_P_leftness 31 = .ok (.lsub, 1) := by decide +kernel
theorem d_P_leftness_32 : decode b_P_leftness 32 = .ok (.lstore 7, 2) := by decide +kernel
theorem d_P_leftness_34 : decode b_P_leftness 34 = .ok (.lload 5, 2) := by decide +kernel
theorem d_P_leftness_36 : decode b_P_leftness 36 = .ok (.iload 4, 2) := by decide +kernel
theorem d_P_leftness_38 : decode b_P_leftness 38 = .ok (.i2l, 1) := by decide +kernel
theorem d_P_leftness_39 : decode b_P_leftness 39 = .ok (.aload_n 0, 1) := by decide +kernel
theorem d_P_leftness_40 : decode b_P_leftness 40 = .ok (.getfield 15, 3) := by decide +kernel
theorem d_P_leftness_43 : decode b_P_leftness 43 = .ok (.iload_n 1, 1) := by decide +kernel
theorem d_P_leftness_44 : decode b_P_leftness 44 = .ok (.iaload, 1) := by decide +kernel
theorem d_P_leftness_45 : decode b_P_leftness 45 = .ok (.i2l, 1) := by decide +kernel
theorem d_P_leftness_46 : decode b_P_leftness 46 = .ok (.lsub, 1) := by decide +kernel
theorem d_P_leftness_47 : decode b_P_leftness 47 = .ok (.lmul, 1) := by decide +kernel
theorem d_P_leftness_48 : decode b_P_leftness 48 = .ok (.lload 7, 2) := by decide +kernel
theorem d_P_leftness_50 : decode b_P_leftness 50 = .ok (.iload_n 3, 1) := by decide +kernel
theorem d_P_leftness_51 : decode b_P_leftness 51 = .ok (.i2l, 1) := by decide +kernel
theorem d_P_leftness_52 : decode b_P_leftness 52 = .ok (.aload_n 0, 1) := by decide +kernel
theorem d_P_leftness_53 : decode b_P_leftness 53 = .ok (.getfield 9, 3) := by decide +kernel
theorem d_P_leftness_56 : decode b_P_leftness 56 = .ok (.iload_n 1, 1) := by decide +kernel
theorem d_P_leftness_57 : decode b_P_leftness 57 = .ok (.iaload, 1) := by decide +kernel
theorem d_P_leftness_58 : decode b_P_leftness 58 = .ok (.i2l, 1) := by decide +kernel
theorem d_P_leftness_59 : decode b_P_leftness 59 = .ok (.lsub, 1) := by decide +kernel
theorem d_P_leftness_60 : decode b_P_leftness 60 = .ok (.lmul, 1) := by decide +kernel
theorem d_P_leftness_61 : decode b_P_leftness 61 = .ok (.lsub, 1) := by decide +kernel
theorem d_P_leftness_62 : decode b_P_leftness 62 = .ok (.lreturn, 1) := by decide +kernel
theorem d_P_add_0 : decode b_P_add 0 = .ok (.aload_n 0, 1) := by decide +kernel
theorem d_P_add_1 : decode b_P_add 1 = .ok (.invokevirtual 22, 3) := by decide +kernel
theorem d_P_add_4 : decode b_P_add 4 = .ok (.ifCond .ne 33, 3) := by decide +kernel
theorem d_P_add_7 : decode b_P_add 7 = .ok (.aload_n 0, 1) := by decide +kernel
theorem d_P_add_8 : decode b_P_add 8 = .ok (.getfield 9, 3) := by decide +kernel
theorem d_P_add_11 : decode b_P_add 11 = .ok (.aload_n 0, 1) := by decide +kernel
theorem d_P_add_12 : decode b_P_add 12 = .ok (.getfield 18, 3) := by decide +kernel
theorem d_P_add_15 : decode b_P_add 15 = .ok (.iload_n 1, 1) := by decide +kernel
theorem d_P_add_16 : decode b_P_add 16 = .ok (.iastore, 1) := by decide +kernel
theorem d_P_add_17 : decode b_P_add 17 = .ok (.aload_n 0, 1) := by decide +kernel
theorem d_P_add_18 : decode b_P_add 18 = .ok (.getfield 15, 3) := by decide +kernel
theorem d_P_add_21 : decode b_P_add 21 = .ok (.aload_n 0, 1) := by decide +kernel
theorem d_P_add_22 : decode b_P_add 22 = .ok (.getfield 18, 3) := by decide +kernel
theorem d_P_add_25 : decode b_P_add 25 = .ok (.iload_n 2, 1) := by decide +kernel
theorem d_P_add_26 : decode b_P_add 26 = .ok (.iastore, 1) := by decide +kernel
theorem d_P_add_27 : decode b_P_add 27 = .ok (.aload_n 0, 1) := by decide +kernel
theorem d_P_add_28 : decode b_P_add 28 = .ok (.dup, 1) := by decide +kernel
theorem d_P_add_29 : decode b_P_add 29 = .ok (.getfield 18, 3) := by decide +kernel
theorem d_P_add_32 : decode b_P_add 32 = .ok (.iconst 1, 1) := by decide +kernel
theorem d_P_add_33 : decode b_P_add 33 = .ok (.iadd, 1) := by decide +kernel
theorem d_P_add_34 : decode b_P_add 34 = .ok (.putfield 18, 3) := by decide +kernel
theorem d_P_add_37 : decode b_P_add 37 = .ok (.return_, 1) := by decide +kernel
theorem d_X_segment_0 : decode b_X_segment 0 = .ok (.aload_n 0, 1) := by decide +kernel
theorem d_X_segment_1 : decode b_X_segment 1 = .ok (.getfield 20, 3) := by decide +kernel
theorem d_X_segment_4 : decode b_X_segment 4 = .ok (.iload_n 1, 1) := by decide +kernel
theorem d_X_segment_5 : decode b_X_segment 5 = .ok (.invokevirtual 67, 3) := by decide +kernel
theorem d_X_segment_8 : decode b_X_segment 8 = .ok (.ifCond .eq 19, 3) := by decide +kernel
theorem d_X_segment_11 : decode b_X_segment 11 = .ok (.aload_n 0, 1) := by decide +kernel
theorem d_X_segment_12 : decode b_X_segment 12 = .ok (.getfield 20, 3) := by decide +kernel
theorem d_X_segment_15 : decode b_X_segment 15 = .ok (.iload_n 2, 1) := by decide +kernel
theorem d_X_segment_16 : decode b_X_segment 16 = .ok (.invokevirtual 67, 3) := by decide +kernel
theorem d_X_segment_19 : decode b_X_segment 19 = .ok (.ifCond .eq 8, 3) := by decide +kernel
theorem d_X_segment_22 : decode b_X_segment 22 = .ok (.iload_n 1, 1) := by decide +kernel
theorem d_X_segment_23 : decode b_X_segment 23 = .ok (.iload_n 2, 1) := by decide +kernel
theorem d_X_segment_24 : decode b_X_segment 24 = .ok (.if_icmp .ne 6, 3) := by decide +kernel
theorem d_X_segment_27 : decode b_X_segment 27 = .ok (.bipush (-2), 2) := by decide +kernel
theorem d_X_segment_29 : decode b_X_segment 29 = .ok (.ireturn, 1) := by decide +kernel
theorem d_X_segment_30 : decode b_X_segment 30 = .ok (.aload_n 0, 1) := by decide +kernel
theorem d_X_segment_31 : decode b_X_segment 31 = .ok (.getfield 25, 3) := by decide +kernel
theorem d_X_segment_34 : decode b_X_segment 34 = .ok (.iload_n 1, 1) := by decide +kernel
theorem d_X_segment_35 : decode b_X_segment 35 = .ok (.iload_n 2, 1) := by decide +kernel
theorem d_X_segment_36 : decode b_X_segment 36 = .ok (.invokevirtual 71, 3) := by decide +kernel
theorem d_X_segment_39 : decode b_X_segment 39 = .ok (.ifCond .ne 13, 3) := by decide +kernel
theorem d_X_segment_42 : decode b_X_segment 42 = .ok (.aload_n 0, 1) := by decide +kernel
theorem d_X_segment_43 : decode b_X_segment 43 = .ok (.getfield 25, 3) := by decide +kernel
theorem d_X_segment_46 : decode b_X_segment 46 = .ok (.invokevirtual 74, 3) := by decide +kernel
theorem d_X_segment_49 : decode b_X_segment 49 = .ok (.ifCond .eq 6, 3) := by decide +kernel
theorem d_X_segment_52 : decode b_X_segment 52 = .ok (.bipush (-3), 2) := by decide +kernel
theorem d_X_segment_54 : decode b_X_segment 54 = .ok (.ireturn, 1) := by decide +kernel
theorem d_X_segment_55 : decode b_X_segment 55 = .ok (.aload_n 0, 1) := by decide +kernel
theorem d_X_segment_56 : decode b_X_segment 56 = .ok (.getfield 20, 3) := by decide +kernel
theorem d_X_segment_59 : decode b_X_segment 59 = .ok (.iload_n 1, 1) := by decide +kernel
theorem d_X_segment_60 : decode b_X_segment 60 = .ok (.iload_n 2, 1) := by decide +kernel
theorem d_X_segment_61 : decode b_X_segment 61 = .ok (.invokevirtual 75, 3) := by decide +kernel
theorem d_X_segment_64 : decode b_X_segment 64 = .ok (.ifCond .eq 6, 3) := by decide +kernel
theorem d_X_segment_67 : decode b_X_segment 67 = .ok (.bipush (-4), 2) := by decide +kernel
theorem d_X_segment_69 : decode b_X_segment 69 = .ok (.ireturn, 1) := by decide +kernel
theorem d_X_segment_70 : decode b_X_segment 70 = .ok (.aload_n 0, 1) := by decide +kernel
theorem d_X_segment_71 : decode b_X_segment 71 = .ok (.getfield 25, 3) := by decide +kernel
theorem d_X_segment_74 : decode b_X_segment 74 = .ok (.aload_n 0, 1) := by decide +kernel
theorem d_X_segment_75 : decode b_X_segment 75 = .ok (.getfield 20, 3) := by decide +kernel
theorem d_X_segment_78 : decode b_X_segment 78 = .ok (.iload_n 1, 1) := by decide +kernel
theorem d_X_segment_79 : decode b_X_segment 79 = .ok (.iload_n 2, 1) := by decide +kernel
theorem d_X_segment_80 : decode b_X_segment 80 = .ok (.invokevirtual 78, 3) := by decide +kernel
theorem d_X_segment_83 : decode b_X_segment 83 = .ok (.ifCond .eq 6, 3) := by decide +kernel
theorem d_X_segment_86 : decode b_X_segment 86 = .ok (.bipush (-5), 2) := by decide +kernel
theorem d_X_segment_88 : decode b_X_segment 88 = .ok (.ireturn, 1) := by decide +kernel
theorem d_X_segment_89 : decode b_X_segment 89 = .ok (.aload_n 0, 1) := by decide +kernel
theorem d_X_segment_90 : decode b_X_segment 90 = .ok (.getfield 25, 3) := by decide +kernel
theorem d_X_segment_93 : decode b_X_segment 93 = .ok (.iload_n 1, 1) := by decide +kernel
theorem d_X_segment_94 : decode b_X_segment 94 = .ok (.iload_n 2, 1) := by decide +kernel
theorem d_X_segment_95 : decode b_X_segment 95 = .ok (.invokevirtual 81, 3) := by decide +kernel
theorem d_X_segment_98 : decode b_X_segment 98 = .ok (.aload_n 0, 1) := by decide +kernel
theorem d_X_segment_99 : decode b_X_segment 99 = .ok (.getfield 25, 3) := by decide +kernel
theorem d_X_segment_102 : decode b_X_segment 102 = .ok (.getfield 82, 3) := by decide +kernel
theorem d_X_segment_105 : decode b_X_segment 105 = .ok (.iconst 1, 1) := by decide +kernel
theorem d_X_segment_106 : decode b_X_segment 106 = .ok (.isub, 1) := by decide +kernel
theorem d_X_segment_107 : decode b_X_segment 107 = .ok (.ireturn, 1) := by decide +kernel
theorem d_P_has_0 : decode b_P_has 0 = .ok (.iload_n 1, 1) := by decide +kernel
theorem d_P_has_1 : decode b_P_has 1 = .ok (.ifCond .lt 15, 3) := by decide +kernel
theorem d_P_has_4 : decode b_P_has 4 = .ok (.iload_n 1, 1) := by decide +kernel
theorem d_P_has_5 : decode b_P_has 5 = .ok (.aload_n 0, 1) := by decide +kernel
theorem d_P_has_6 : decode b_P_has 6 = .ok (.getfield 18, 3) := by decide +kernel
theorem d_P_has_9 : decode b_P_has 9 = .ok (.if_icmp .ge 7, 3) := by decide +kernel
theorem d_P_has_12 : decode b_P_has 12 = .ok (.iconst 1, 1) := by decide +kernel
theorem d_P_has_13 : decode b_P_has 13 = .ok (.goto 4, 3) := by decide +kernel
theorem d_P_has_16 : decode b_P_has 16 = .ok (.iconst 0, 1) := by decide +kernel
theorem d_P_has_17 : decode b_P_has 17 = .ok (.ireturn, 1) := by decide +kernel
theorem d_L_join_0 : decode b_L_join 0 = .ok (.aload_n 0, 1) := by decide +kernel
theorem d_L_join_1 : decode b_L_join 1 = .ok (.getfield 18, 3) := by decide +kernel
theorem d_L_join_4 : decode b_L_join 4 = .ok (.iload_n 1, 1) := by decide +kernel
theorem d_L_join_5 : decode b_L_join 5 = .ok (.iaload, 1) := by decide +kernel
theorem d_L_join_6 : decode b_L_join 6 = .ok (.iload_n 2, 1) := by decide +kernel
theorem d_L_join_7 : decode b_L_join 7 = .ok (.ishr, 1) := by decide +kernel
theorem d_L_join_8 : decode b_L_join 8 = .ok (.iconst 1, 1) := by decide +kernel
theorem d_L_join_9 : decode b_L_join 9 = .ok (.iand, 1) := by decide +kernel
theorem d_L_join_10 : decode b_L_join 10 = .ok (.ifCond .eq 7, 3) := by decide +kernel
theorem d_L_join_13 : decode b_L_join 13 = .ok (.iconst 1, 1) := by decide +kernel
theorem d_L_join_14 : decode b_L_join 14 = .ok (.goto 4, 3) := by decide +kernel
theorem d_L_join_17 : decode b_L_join 17 = .ok (.iconst 0, 1) := by decide +kernel
theorem d_L_join_18 : decode b_L_join 18 = .ok (.ireturn, 1) := by decide +kernel
theorem d_L_isFull_0 : decode b_L_isFull 0 = .ok (.aload_n 0, 1) := by decide +kernel
theorem d_L_isFull_1 : decode b_L_isFull 1 = .ok (.getfield 21, 3) := by decide +kernel
theorem d_L_isFull_4 : decode b_L_isFull 4 = .ok (.aload_n 0, 1) := by decide +kernel
theorem d_L_isFull_5 : decode b_L_isFull 5 = .ok (.getfield 9, 3) := by decide +kernel
theorem d_L_isFull_8 : decode b_L_isFull 8 = .ok (.arraylength, 1) := by decide +kernel
theorem d_L_isFull_9 : decode b_L_isFull 9 = .ok (.if_icmp .lt 7, 3) := by decide +kernel
theorem d_L_isFull_12 : decode b_L_isFull 12 = .ok (.iconst 1, 1) := by decide +kernel
theorem d_L_isFull_13 : decode b_L_isFull 13 = .ok (.goto 4, 3) := by decide +kernel
theorem d_L_isFull_16 : decode b_L_isFull 16 = .ok (.iconst 0, 1) := by decide +kernel
theorem d_L_isFull_17 : decode b_L_isFull 17 = .ok (.ireturn, 1) := by decide +kernel
theorem d_P_anyBetween_0 : decode b_P_anyBetween 0 = .ok (.iconst 0, 1) := by decide +kernel
theorem d_P_anyBetween_1 : decode b_P_anyBetween 1 = .ok (.istore_n 3, 1) := by decide +kernel
theorem d_P_anyBetween_2 : decode b_P_anyBetween 2 = .ok (.iload_n 3, 1) := by decide +kernel
theorem d_P_anyBetween_3 : decode b_P_anyBetween 3 = .ok (.aload_n 0, 1) := by decide +kernel
theorem d_P_anyBetween_4 : decode b_P_anyBetween 4 = .ok (.getfield 18, 3) := by decide +kernel
theorem d_P_anyBetween_7 : decode b_P_anyBetween 7 = .ok (.if_icmp .ge 42, 3) := by decide +kernel
theorem d_P_anyBetween_10 : decode b_P_anyBetween 10 = .ok (.iload_n 3, 1) := by decide +kernel
theorem d_P_anyBetween_11 : decode b_P_anyBetween 11 = .ok (.iload_n 1, 1) := by decide +kernel
theorem d_P_anyBetween_12 : decode b_P_anyBetween 12 = .ok (.if_icmp .eq 31, 3) := by decide +kernel
theorem d_P_anyBetween_15 : decode b_P_anyBetween 15 = .ok (.iload_n 3, 1) := by decide +kernel
theorem d_P_anyBetween_16 : decode b_P_anyBetween 16 = .ok (.iload_n 2, 1) := by decide +kernel
theorem d_P_anyBetween_17 : decode b_P_anyBetween 17 = .ok (.if_icmp .eq 26, 3) := by decide +kernel
theorem d_P_anyBetween_20 : decode b_P_anyBetween 20 = .ok (.aload_n 0, 1) := by decide +kernel
theorem d_P_anyBetween_21 : decode b_P_anyBetween 21 = .ok (.iload_n 1, 1) := by decide +kernel
theorem d_P_anyBetween_22 : decode b_P_anyBetween 22 = .ok (.iload_n 2, 1) := by decide +kernel
theorem d_P_anyBetween_23 : decode b_P_anyBetween 23 = .ok (.aload_n 0, 1) := by decide +kernel
theorem d_P_anyBetween_24 : decode b_P_anyBetween 24 = .ok (.getfield 9, 3) := by decide +kernel
theorem d_P_anyBetween_27 : decode b_P_anyBetween 27 = .ok (.iload_n 3, 1) := by decide +kernel
theorem d_P_anyBetween_28 : decode b_P_anyBetween 28 = .ok (.iaload, 1) := by decide +kernel
theorem d_P_anyBetween_29 : decode b_P_anyBetween 29 = .ok (.aload_n 0, 1) := by decide +kernel
theorem d_P_anyBetween_30 : decode b_P_anyBetween 30 = .ok (.getfield 15, 3) := by decide +kernel
theorem d_P_anyBetween_33 : decode b_P_anyBetween 33 = .ok (.iload_n 3, 1) := by decide +kernel
theorem d_P_anyBetween_34 : decode b_P_anyBetween 34 = .ok (.iaload, 1) := by decide +kernel
theorem d_P_anyBetween_35 : decode b_P_anyBetween 35 = .ok (.invokevirtual 53, 3) := by decide +kernel
theorem d_P_anyBetween_38 : decode b_P_anyBetween 38 = .ok (.ifCond .eq 5, 3) := by decide +kernel
theorem d_P_anyBetween_41 : decode b_P_anyBetween 41 = .ok (.iconst 1, 1) := by decide +kernel
theorem d_P_anyBetween_42 : decode b_P_anyBetween 42 = .ok (.ireturn, 1) := by decide +kernel
theorem d_P_anyBetween_43 : decode b_P_anyBetween 43 = .ok (.iinc 3 1, 3) := by decide +kernel
theorem d_P_anyBetween_46 : decode b_P_anyBetween 46 = .ok (.goto (-44), 3) := by decide +kernel
theorem d_P_anyBetween_49 : decode b_P_anyBetween 49 = .ok (.iconst 0, 1) := by decide +kernel
theorem d_P_anyBetween_50 : decode b_P_anyBetween 50 = .ok (.ireturn, 1) := by decide +kernel
theorem d_L_anyCrossing_0 : decode b_L_anyCrossing 0 = .ok (.iconst 0, 1) := by decide +kernel
theorem d_L_anyCrossing_1 : decode b_L_anyCrossing 1 = .ok (.istore 4, 2) := by decide +kernel
theorem d_L_anyCrossing_3 : decode b_L_anyCrossing 3 = .ok (.iload 4, 2) := by decide +kernel
theorem d_L_anyCrossing_5 : decode b_L_anyCrossing 5 = .ok (.aload_n 0, 1) := by decide +kernel
theorem d_L_anyCrossing_6 : decode b_L_anyCrossing 6 = .ok (.getfield 21, 3) := by decide +kernel
theorem d_L_anyCrossing_9 : decode b_L_anyCrossing 9 = .ok (.if_icmp .ge 34, 3) := by decide +kernel
theorem d_L_anyCrossing_12 : decode b_L_anyCrossing 12 = .ok (.aload_n 1, 1) := by decide +kernel
theorem d_L_anyCrossing_13 : decode b_L_anyCrossing 13 = .ok (.iload_n 2, 1) := by decide +kernel
theorem d_L_anyCrossing_14 : decode b_L_anyCrossing 14 = .ok (.iload_n 3, 1) := by decide +kernel
theorem d_L_anyCrossing_15 : decode b_L_anyCrossing 15 = .ok (.aload_n 0, 1) := by decide +kernel
theorem d_L_anyCrossing_16 : decode b_L_anyCrossing 16 = .ok (.getfield 9, 3) := by decide +kernel
theorem d_L_anyCrossing_19 : decode b_L_anyCrossing 19 = .ok (.iload 4, 2) := by decide +kernel
theorem d_L_anyCrossing_21 : decode b_L_anyCrossing 21 = .ok (.iaload, 1) := by decide +kernel
theorem d_L_anyCrossing_22 : decode b_L_anyCrossing 22 = .ok (.aload_n 0, 1) := by decide +kernel
theorem d_L_anyCrossing_23 : decode b_L_anyCrossing 23 = .ok (.getfield 15, 3) := by decide +kernel
theorem d_L_anyCrossing_26 : decode b_L_anyCrossing 26 = .ok (.iload 4, 2) := by decide +kernel
theorem d_L_anyCrossing_28 : decode b_L_anyCrossing 28 = .ok (.iaload, 1) := by decide +kernel
theorem d_L_anyCrossing_29 : decode b_L_anyCrossing 29 = .ok (.invokevirtual 45, 3) := by decide +kernel
theorem d_L_anyCrossing_32 : decode b_L_anyCrossing 32 = .ok (.ifCond .eq 5, 3) := by decide +kernel
theorem d_L_anyCrossing_35 : decode b_L_anyCrossing 35 = .ok (.iconst 1, 1) := by decide +kernel
theorem d_L_anyCrossing_36 : decode b_L_anyCrossing 36 = .ok (.ireturn, 1) := by decide +kernel
theorem d_L_anyCrossing_37 : decode b_L_anyCrossing 37 = .ok (.iinc 4 1, 3) := by decide +kernel
theorem d_L_anyCrossing_40 : decode b_L_anyCrossing 40 = .ok (.goto (-37), 3) := by decide +kernel
theorem d_L_anyCrossing_43 : decode b_L_anyCrossing 43 = .ok (.iconst 0, 1) := by decide +kernel
theorem d_L_anyCrossing_44 : decode b_L_anyCrossing 44 = .ok (.ireturn, 1) := by decide +kernel
theorem d_P_areCrossing_0 : decode b_P_areCrossing 0 = .ok (.aload_n 0, 1) := by decide +kernel
theorem d_P_areCrossing_1 : decode b_P_areCrossing 1 = .ok (.iload_n 1, 1) := by decide +kernel
theorem d_P_areCrossing_2 : decode b_P_areCrossing 2 = .ok (.iload_n 2, 1) := by decide +kernel
theorem d_P_areCrossing_3 : decode b_P_areCrossing 3 = .ok (.iload_n 3, 1) := by decide +kernel
theorem d_P_areCrossing_4 : decode b_P_areCrossing 4 = .ok (.invokevirtual 57, 3) := by decide +kernel
theorem d_P_areCrossing_7 : decode b_P_areCrossing 7 = .ok (.aload_n 0, 1) := by decide +kernel
theorem d_P_areCrossing_8 : decode b_P_areCrossing 8 = .ok (.iload_n 1, 1) := by decide +kernel
theorem d_P_areCrossing_9 : decode b_P_areCrossing 9 = .ok (.iload_n 2, 1) := by decide +kernel
theorem d_P_areCrossing_10 : decode b_P_areCrossing 10 = .ok (.iload 4, 2) := by decide +kernel
theorem d_P_areCrossing_12 : decode b_P_areCrossing 12 = .ok (.invokevirtual 57, 3) := by decide +kernel
theorem d_P_areCrossing_15 : decode b_P_areCrossing 15 = .ok (.imul, 1) := by decide +kernel
theorem d_P_areCrossing_16 : decode b_P_areCrossing 16 = .ok (.ifCond .ge 27, 3) := by decide +kernel
theorem d_P_areCrossing_19 : decode b_P_areCrossing 19 = .ok (.aload_n 0, 1) := by decide +kernel
theorem d_P_areCrossing_20 : decode b_P_areCrossing 20 = .ok (.iload_n 3, 1) := by decide +kernel
theorem d_P_areCrossing_21 : decode b_P_areCrossing 21 = .ok (.iload 4, 2) := by decide +kernel
theorem d_P_areCrossing_23 : decode b_P_areCrossing 23 = .ok (.iload_n 1, 1) := by decide +kernel
theorem d_P_areCrossing_24 : decode b_P_areCrossing 24 = .ok (.invokevirtual 57, 3) := by decide +kernel
theorem d_P_areCrossing_27 : decode b_P_areCrossing 27 = .ok (.aload_n 0, 1) := by decide +kernel
theorem d_P_areCrossing_28 : decode b_P_areCrossing 28 = .ok (.iload_n 3, 1) := by decide +kernel
theorem d_P_areCrossing_29 : decode b_P_areCrossing 29 = .ok (.iload 4, 2) := by decide +kernel
theorem d_P_areCrossing_31 : decode b_P_areCrossing 31 = .ok (.iload_n 2, 1) := by decide +kernel
theorem d_P_areCrossing_32 : decode b_P_areCrossing 32 = .ok (.invokevirtual 57, 3) := by decide +kernel
theorem d_P_areCrossing_35 : decode b_P_areCrossing 35 = .ok (.imul, 1) := by decide +kernel
theorem d_P_areCrossing_36 : decode b_P_areCrossing 36 = .ok (.ifCond .ge 7, 3) := by decide +kernel
theorem d_P_areCrossing_39 : decode b_P_areCrossing 39 = .ok (.iconst 1, 1) := by decide +kernel
theorem d_P_areCrossing_40 : decode b_P_areCrossing 40 = .ok (.goto 4, 3) := by decide +kernel
theorem d_P_areCrossing_43 : decode b_P_areCrossing 43 = .ok (.iconst 0, 1) := by decide +kernel
theorem d_P_areCrossing_44 : decode b_P_areCrossing 44 = .ok (.ireturn, 1) := by decide +kernel
theorem d_P_sideOfLine_0 : decode b_P_sideOfLine 0 = .ok (.aload_n 0, 1) := by decide +kernel
theorem d_P_sideOfLine_1 : decode b_P_sideOfLine 1 = .ok (.iload_n 1, 1) := by decide +kernel
theorem d_P_sideOfLine_2 : decode b_P_sideOfLine 2 = .ok (.iload_n 2, 1) := by decide +kernel
theorem d_P_sideOfLine_3 : decode b_P_sideOfLine 3 = .ok (.aload_n 0, 1) := by decide +kernel
theorem d_P_sideOfLine_4 : decode b_P_sideOfLine 4 = .ok (.getfield 9, 3) := by decide +kernel
theorem d_P_sideOfLine_7 : decode b_P_sideOfLine 7 = .ok (.iload_n 3, 1) := by decide +kernel
theorem d_P_sideOfLine_8 : decode b_P_sideOfLine 8 = .ok (.iaload, 1) := by decide +kernel
theorem d_P_sideOfLine_9 : decode b_P_sideOfLine 9 = .ok (.aload_n 0, 1) := by decide +kernel
theorem d_P_sideOfLine_10 : decode b_P_sideOfLine 10 = .ok (.getfield 15, 3) := by decide +kernel
theorem d_P_sideOfLine_13 : decode b_P_sideOfLine 13 = .ok (.iload_n 3, 1) := by decide +kernel
theorem d_P_sideOfLine_14 : decode b_P_sideOfLine 14 = .ok (.iaload, 1) := by decide +kernel
theorem d_P_sideOfLine_15 : decode b_P_sideOfLine 15 = .ok (.invokevirtual 26, 3) := by decide +kernel
theorem d_P_sideOfLine_18 : decode b_P_sideOfLine 18 = .ok (.invokestatic 30, 3) := by decide +kernel
theorem d_P_sideOfLine_21 : decode b_P_sideOfLine 21 = .ok (.ireturn, 1) := by decide +kernel
theorem d_E_signOf_0 : decode b_E_signOf 0 = .ok (.lload_n 0, 1) := by decide +kernel
theorem d_E_signOf_1 : decode b_E_signOf 1 = .ok (.lconst 0, 1) := by decide +kernel
theorem d_E_signOf_2 : decode b_E_signOf 2 = .ok (.lcmp, 1) := by decide +kernel
theorem d_E_signOf_3 : decode b_E_signOf 3 = .ok (.ifCond .ne 5, 3) := by decide +kernel
theorem d_E_signOf_6 : decode b_E_signOf 6 = .ok (.iconst 0, 1) := by decide +kernel
theorem d_E_signOf_7 : decode b_E_signOf 7 = .ok (.ireturn, 1) := by decide +kernel
theorem d_E_signOf_8 : decode b_E_signOf 8 = .ok (.lload_n 0, 1) := by decide +kernel
theorem d_E_signOf_9 : decode b_E_signOf 9 = .ok (.lconst 0, 1) := by decide +kernel
theorem d_E_signOf_10 : decode b_E_signOf 10 = .ok (.lcmp, 1) := by decide +kernel
theorem d_E_signOf_11 : decode b_E_signOf 11 = .ok (.ifCond .le 7, 3) := by decide +kernel
theorem d_E_signOf_14 : decode b_E_signOf 14 = .ok (.iconst 1, 1) := by decide +kernel
theorem d_E_signOf_15 : decode b_E_signOf 15 = .ok (.goto 4, 3) := by decide +kernel
theorem d_E_signOf_18 : decode b_E_signOf 18 = .ok (.iconst (-1), 1) := by decide +kernel
theorem d_E_signOf_19 : decode b_E_signOf 19 = .ok (.ireturn, 1) := by decide +kernel
theorem d_L_add_0 : decode b_L_add 0 = .ok (.aload_n 0, 1) := by decide +kernel
theorem d_L_add_1 : decode b_L_add 1 = .ok (.invokevirtual 31, 3) := by decide +kernel
theorem d_L_add_4 : decode b_L_add 4 = .ok (.ifCond .ne 57, 3) := by decide +kernel
theorem d_L_add_7 : decode b_L_add 7 = .ok (.aload_n 0, 1) := by decide +kernel
theorem d_L_add_8 : decode b_L_add 8 = .ok (.getfield 9, 3) := by decide +kernel
theorem d_L_add_11 : decode b_L_add 11 = .ok (.aload_n 0, 1) := by decide +kernel
theorem d_L_add_12 : decode b_L_add 12 = .ok (.getfield 21, 3) := by decide +kernel
theorem d_L_add_15 : decode b_L_add 15 = .ok (.iload_n 1, 1) := by decide +kernel
theorem d_L_add_16 : decode b_L_add 16 = .ok (.iastore, 1) := by decide +kernel
theorem d_L_add_17 : decode b_L_add 17 = .ok (.aload_n 0, 1) := by decide +kernel
theorem d_L_add_18 : decode b_L_add 18 = .ok (.getfield 15, 3) := by decide +kernel
theorem d_L_add_21 : decode b_L_add 21 = .ok (.aload_n 0, 1) := by decide +kernel
theorem d_L_add_22 : decode b_L_add 22 = .ok (.getfield 21, 3) := by decide +kernel
theorem d_L_add_25 : decode b_L_add 25 = .ok (.iload_n 2, 1) := by decide +kernel
theorem d_L_add_26 : decode b_L_add 26 = .ok (.iastore, 1) := by decide +kernel
theorem d_L_add_27 : decode b_L_add 27 = .ok (.aload_n 0, 1) := by decide +kernel
theorem d_L_add_28 : decode b_L_add 28 = .ok (.dup, 1) := by decide +kernel
theorem d_L_add_29 : decode b_L_add 29 = .ok (.getfield 21, 3) := by decide +kernel
theorem d_L_add_32 : decode b_L_add 32 = .ok (.iconst 1, 1) := by decide +kernel
theorem d_L_add_33 : decode b_L_add 33 = .ok (.iadd, 1) := by decide +kernel
theorem d_L_add_34 : decode b_L_add 34 = .ok (.putfield 21, 3) := by decide +kernel
theorem d_L_add_37 : decode b_L_add 37 = .ok (.aload_n 0, 1) := by decide +kernel
theorem d_L_add_38 : decode b_L_add 38 = .ok (.getfield 18, 3) := by decide +kernel
theorem d_L_add_41 : decode b_L_add 41 = .ok (.iload_n 1, 1) := by decide +kernel
theorem d_L_add_42 : decode b_L_add 42 = .ok (.dup2, 1) := by decide +kernel
theorem d_L_add_43 : decode b_L_add 43 = .ok (.iaload, 1) := by decide +kernel
theorem d_L_add_44 : decode b_L_add 44 = .ok (.iconst 1, 1) := by decide +kernel
theorem d_L_add_45 : decode b_L_add 45 = .ok (.iload_n 2, 1) := by decide +kernel
theorem d_L_add_46 : decode b_L_add 46 = .ok (.ishl, 1) := by decide +kernel
theorem d_L_add_47 : decode b_L_add 47 = .ok (.ior, 1) := by decide +kernel
theorem d_L_add_48 : decode b_L_add 48 = .ok (.iastore, 1) := by decide +kernel
theorem d_L_add_49 : decode b_L_add 49 = .ok (.aload_n 0, 1) := by decide +kernel
theorem d_L_add_50 : decode b_L_add 50 = .ok (.getfield 18, 3) := by decide +kernel
theorem d_L_add_53 : decode b_L_add 53 = .ok (.iload_n 2, 1) := by decide +kernel
theorem d_L_add_54 : decode b_L_add 54 = .ok (.dup2, 1) := by decide +kernel
theorem d_L_add_55 : decode b_L_add 55 = .ok (.iaload, 1) := by decide +kernel
theorem d_L_add_56 : decode b_L_add 56 = .ok (.iconst 1, 1) := by decide +kernel
theorem d_L_add_57 : decode b_L_add 57 = .ok (.iload_n 1, 1) := by decide +kernel
theorem d_L_add_58 : decode b_L_add 58 = .ok (.ishl, 1) := by decide +kernel
theorem d_L_add_59 : decode b_L_add 59 = .ok (.ior, 1) := by decide +kernel
theorem d_L_add_60 : decode b_L_add 60 = .ok (.iastore, 1) := by decide +kernel
theorem d_L_add_61 : decode b_L_add 61 = .ok (.return_, 1) := by decide +kernel
theorem d_X_hole_0 : decode b_X_hole 0 = .ok (.iload_n 1, 1) := by decide +kernel
theorem d_X_hole_1 : decode b_X_hole 1 = .ok (.iload_n 2, 1) := by decide +kernel
theorem d_X_hole_2 : decode b_X_hole 2 = .ok (.invokestatic 41, 3) := by decide +kernel
theorem d_X_hole_5 : decode b_X_hole 5 = .ok (.ifCond .ne 6, 3) := by decide +kernel
theorem d_X_hole_8 : decode b_X_hole 8 = .ok (.bipush (-2), 2) := by decide +kernel
theorem d_X_hole_10 : decode b_X_hole 10 = .ok (.ireturn, 1) := by decide +kernel
theorem d_X_hole_11 : decode b_X_hole 11 = .ok (.aload_n 0, 1) := by decide +kernel
theorem d_X_hole_12 : decode b_X_hole 12 = .ok (.getfield 31, 3) := by decide +kernel
theorem d_X_hole_15 : decode b_X_hole 15 = .ok (.invokevirtual 49, 3) := by decide +kernel
theorem d_X_hole_18 : decode b_X_hole 18 = .ok (.ifCond .eq 6, 3) := by decide +kernel
theorem d_X_hole_21 : decode b_X_hole 21 = .ok (.bipush (-3), 2) := by decide +kernel
theorem d_X_hole_23 : decode b_X_hole 23 = .ok (.ireturn, 1) := by decide +kernel
theorem d_X_hole_24 : decode b_X_hole 24 = .ok (.aload_n 0, 1) := by decide +kernel
theorem d_X_hole_25 : decode b_X_hole 25 = .ok (.getfield 31, 3) := by decide +kernel
theorem d_X_hole_28 : decode b_X_hole 28 = .ok (.iload_n 1, 1) := by decide +kernel
theorem d_X_hole_29 : decode b_X_hole 29 = .ok (.iload_n 2, 1) := by decide +kernel
theorem d_X_hole_30 : decode b_X_hole 30 = .ok (.invokevirtual 59, 3) := by decide +kernel
theorem d_X_hole_33 : decode b_X_hole 33 = .ok (.aload_n 0, 1) := by decide +kernel
theorem d_X_hole_34 : decode b_X_hole 34 = .ok (.getfield 31, 3) := by decide +kernel
theorem d_X_hole_37 : decode b_X_hole 37 = .ok (.getfield 63, 3) := by decide +kernel
theorem d_X_hole_40 : decode b_X_hole 40 = .ok (.ireturn, 1) := by decide +kernel
theorem d_X_turn_0 : decode b_X_turn 0 = .ok (.aload_n 0, 1) := by decide +kernel
theorem d_X_turn_1 : decode b_X_turn 1 = .ok (.getfield 20, 3) := by decide +kernel
theorem d_X_turn_4 : decode b_X_turn 4 = .ok (.iload_n 1, 1) := by decide +kernel
theorem d_X_turn_5 : decode b_X_turn 5 = .ok (.invokevirtual 67, 3) := by decide +kernel
theorem d_X_turn_8 : decode b_X_turn 8 = .ok (.ifCond .eq 25, 3) := by decide +kernel
theorem d_X_turn_11 : decode b_X_turn 11 = .ok (.aload_n 0, 1) := by decide +kernel
theorem d_X_turn_12 : decode b_X_turn 12 = .ok (.getfield 20, 3) := by decide +kernel
theorem d_X_turn_15 : decode b_X_turn 15 = .ok (.iload_n 2, 1) := by decide +kernel
theorem d_X_turn_16 : decode b_X_turn 16 = .ok (.invokevirtual 67, 3) := by decide +kernel
theorem d_X_turn_19 : decode b_X_turn 19 = .ok (.ifCond .eq 14, 3) := by decide +kernel
theorem d_X_turn_22 : decode b_X_turn 22 = .ok (.aload_n 0, 1) := by decide +kernel
theorem d_X_turn_23 : decode b_X_turn 23 = .ok (.getfield 20, 3) := by decide +kernel
theorem d_X_turn_26 : decode b_X_turn 26 = .ok (.iload_n 3, 1) := by decide +kernel
theorem d_X_turn_27 : decode b_X_turn 27 = .ok (.invokevirtual 67, 3) := by decide +kernel
theorem d_X_turn_30 : decode b_X_turn 30 = .ok (.ifCond .ne 5, 3) := by decide +kernel
theorem d_X_turn_33 : decode b_X_turn 33 = .ok (.iconst 2, 1) := by decide +kernel
theorem d_X_turn_34 : decode b_X_turn 34 = .ok (.ireturn, 1) := by decide +kernel
theorem d_X_turn_35 : decode b_X_turn 35 = .ok (.aload_n 0, 1) := by decide +kernel
theorem d_X_turn_36 : decode b_X_turn 36 = .ok (.getfield 20, 3) := by decide +kernel
theorem d_X_turn_39 : decode b_X_turn 39 = .ok (.iload_n 1, 1) := by decide +kernel
theorem d_X_turn_40 : decode b_X_turn 40 = .ok (.iload_n 2, 1) := by decide +kernel
theorem d_X_turn_41 : decode b_X_turn 41 = .ok (.iload_n 3, 1) := by decide +kernel
theorem d_X_turn_42 : decode b_X_turn 42 = .ok (.invokevirtual 83, 3) := by decide +kernel
theorem d_X_turn_45 : decode b_X_turn 45 = .ok (.ireturn, 1) := by decide +kernel
