theorem d_R_degree_45 : decode b_R_degree 45 = .ok (.goto (-31), 3) := by decide +kernel
theorem d_R_degree_48 : decode b_R_degree 48 = .ok (.iload_n 2, 1) := by decide +kernel
theorem d_R_degree_49 : decode b_R_degree 49 = .ok (.ireturn, 1) := by decide +kernel
theorem d_R_area_0 : decode b_R_area 0 = .ok (.lconst 0, 1) := by decide +kernel
theorem d_R_area_1 : decode b_R_area 1 = .ok (.lstore_n 1, 1) := by decide +kernel
theorem d_R_area_2 : decode b_R_area 2 = .ok (.iconst 0, 1) := by decide +kernel
theorem d_R_area_3 : decode b_R_area 3 = .ok (.istore_n 3, 1) := by decide +kernel
theorem d_R_area_4 : decode b_R_area 4 = .ok (.iload_n 3, 1) := by decide +kernel
theorem d_R_area_5 : decode b_R_area 5 = .ok (.aload_n 0, 1) := by decide +kernel
theorem d_R_area_6 : decode b_R_area 6 = .ok (.getfield 160, 3) := by decide +kernel
theorem d_R_area_9 : decode b_R_area 9 = .ok (.if_icmp .ge 44, 3) := by decide +kernel
theorem d_R_area_12 : decode b_R_area 12 = .ok (.lload_n 1, 1) := by decide +kernel
theorem d_R_area_13 : decode b_R_area 13 = .ok (.aload_n 0, 1) := by decide +kernel
theorem d_R_area_14 : decode b_R_area 14 = .ok (.aload_n 0, 1) := by decide +kernel
theorem d_R_area_15 : decode b_R_area 15 = .ok (.getfield 41, 3) := by decide +kernel
theorem d_R_area_18 : decode b_R_area 18 = .ok (.iconst 3, 1) := by decide +kernel
theorem d_R_area_19 : decode b_R_area 19 = .ok (.iload_n 3, 1) := by decide +kernel
theorem d_R_area_20 : decode b_R_area 20 = .ok (.imul, 1) := by decide +kernel
theorem d_R_area_21 : decode b_R_area 21 = .ok (.iaload, 1) := by decide +kernel
theorem d_R_area_22 : decode b_R_area 22 = .ok (.aload_n 0, 1) := by decide +kernel
theorem d_R_area_23 : decode b_R_area 23 = .ok (.getfield 41, 3) := by decide +kernel
theorem d_R_area_26 : decode b_R_area 26 = .ok (.iconst 3, 1) := by decide +kernel
theorem d_R_area_27 : decode b_R_area 27 = .ok (.iload_n 3, 1) := by decide +kernel
theorem d_R_area_28 : decode b_R_area 28 = .ok (.imul, 1) := by decide +kernel
theorem d_R_area_29 : decode b_R_area 29 = .ok (.iconst 1, 1) := by decide +kernel
theorem d_R_area_30 : decode b_R_area 30 = .ok (.iadd, 1) := by decide +kernel
theorem d_R_area_31 : decode b_R_area 31 = .ok (.iaload, 1) := by decide +kernel
theorem d_R_area_32 : decode b_R_area 32 = .ok (.aload_n 0, 1) := by decide +kernel
theorem d_R_area_33 : decode b_R_area 33 = .ok (.getfield 41, 3) := by decide +kernel
theorem d_R_area_36 : decode b_R_area 36 = .ok (.iconst 3, 1) := by decide +kernel
theorem d_R_area_37 : decode b_R_area 37 = .ok (.iload_n 3, 1) := by decide +kernel
theorem d_R_area_38 : decode b_R_area 38 = .ok (.imul, 1) := by decide +kernel
theorem d_R_area_39 : decode b_R_area 39 = .ok (.iconst 2, 1) := by decide +kernel
theorem d_R_area_40 : decode b_R_area 40 = .ok (.iadd, 1) := by decide +kernel
theorem d_R_area_41 : decode b_R_area 41 = .ok (.iaload, 1) := by decide +kernel
theorem d_R_area_42 : decode b_R_area 42 = .ok (.invokevirtual 75, 3) := by decide +kernel
theorem d_R_area_45 : decode b_R_area 45 = .ok (.ladd, 1) := by decide +kernel
theorem d_R_area_46 : decode b_R_area 46 = .ok (.lstore_n 1, 1) := by decide +kernel
theorem d_R_area_47 : decode b_R_area 47 = .ok (.iinc 3 1, 3) := by decide +kernel
theorem d_R_area_50 : decode b_R_area 50 = .ok (.goto (-46), 3) := by decide +kernel
theorem d_R_area_53 : decode b_R_area 53 = .ok (.lload_n 1, 1) := by decide +kernel
theorem d_R_area_54 : decode b_R_area 54 = .ok (.lreturn, 1) := by decide +kernel
theorem d_R_border_0 : decode b_R_border 0 = .ok (.iconst 0, 1) := by decide +kernel
theorem d_R_border_1 : decode b_R_border 1 = .ok (.istore_n 1, 1) := by decide +kernel
theorem d_R_border_2 : decode b_R_border 2 = .ok (.iconst 0, 1) := by decide +kernel
theorem d_R_border_3 : decode b_R_border 3 = .ok (.istore_n 2, 1) := by decide +kernel
theorem d_R_border_4 : decode b_R_border 4 = .ok (.iload_n 2, 1) := by decide +kernel
theorem d_R_border_5 : decode b_R_border 5 = .ok (.iconst 3, 1) := by decide +kernel
theorem d_R_border_6 : decode b_R_border 6 = .ok (.aload_n 0, 1) := by decide +kernel
theorem d_R_border_7 : decode b_R_border 7 = .ok (.getfield 160, 3) := by decide +kernel
theorem d_R_border_10 : decode b_R_border 10 = .ok (.imul, 1) := by decide +kernel
theorem d_R_border_11 : decode b_R_border 11 = .ok (.if_icmp .ge 30, 3) := by decide +kernel
theorem d_R_border_14 : decode b_R_border 14 = .ok (.aload_n 0, 1) := by decide +kernel
theorem d_R_border_15 : decode b_R_border 15 = .ok (.iload_n 2, 1) := by decide +kernel
theorem d_R_border_16 : decode b_R_border 16 = .ok (.iconst 3, 1) := by decide +kernel
theorem d_R_border_17 : decode b_R_border 17 = .ok (.idiv, 1) := by decide +kernel
theorem d_R_border_18 : decode b_R_border 18 = .ok (.iload_n 2, 1) := by decide +kernel
theorem d_R_border_19 : decode b_R_border 19 = .ok (.iconst 3, 1) := by decide +kernel
theorem d_R_border_20 : decode b_R_border 20 = .ok (.irem, 1) := by decide +kernel
theorem d_R_border_21 : decode b_R_border 21 = .ok (.invokevirtual 170, 3) := by decide +kernel
theorem d_R_border_24 : decode b_R_border 24 = .ok (.ifCond .ge 9, 3) := by decide +kernel
theorem d_R_border_27 : decode b_R_border 27 = .ok (.iload_n 1, 1) := by decide +kernel
theorem d_R_border_28 : decode b_R_border 28 = .ok (.iconst 1, 1) := by decide +kernel
theorem d_R_border_29 : decode b_R_border 29 = .ok (.iadd, 1) := by decide +kernel
theorem d_R_border_30 : decode b_R_border 30 = .ok (.goto 4, 3) := by decide +kernel
theorem d_R_border_33 : decode b_R_border 33 = .ok (.iload_n 1, 1) := by decide +kernel
theorem d_R_border_34 : decode b_R_border 34 = .ok (.istore_n 1, 1) := by decide +kernel
theorem d_R_border_35 : decode b_R_border 35 = .ok (.iinc 2 1, 3) := by decide +kernel
theorem d_R_border_38 : decode b_R_border 38 = .ok (.goto (-34), 3) := by decide +kernel
theorem d_R_border_41 : decode b_R_border 41 = .ok (.iload_n 1, 1) := by decide +kernel
theorem d_R_border_42 : decode b_R_border 42 = .ok (.ireturn, 1) := by decide +kernel
theorem d_R_vertices_0 : decode b_R_vertices 0 = .ok (.aload_n 0, 1) := by decide +kernel
theorem d_R_vertices_1 : decode b_R_vertices 1 = .ok (.getfield 65, 3) := by decide +kernel
theorem d_R_vertices_4 : decode b_R_vertices 4 = .ok (.ireturn, 1) := by decide +kernel
theorem d_R_segments_0 : decode b_R_segments 0 = .ok (.aload_n 0, 1) := by decide +kernel
theorem d_R_segments_1 : decode b_R_segments 1 = .ok (.getfield 83, 3) := by decide +kernel
theorem d_R_segments_4 : decode b_R_segments 4 = .ok (.ireturn, 1) := by decide +kernel
theorem d_R_place_0 : decode b_R_place 0 = .ok (.aload_n 0, 1) := by decide +kernel
theorem d_R_place_1 : decode b_R_place 1 = .ok (.iload_n 1, 1) := by decide +kernel
theorem d_R_place_2 : decode b_R_place 2 = .ok (.invokevirtual 94, 3) := by decide +kernel
theorem d_R_place_5 : decode b_R_place 5 = .ok (.ifCond .eq 12, 3) := by decide +kernel
theorem d_R_place_8 : decode b_R_place 8 = .ok (.iload_n 2, 1) := by decide +kernel
theorem d_R_place_9 : decode b_R_place 9 = .ok (.ifCond .lt 8, 3) := by decide +kernel
theorem d_R_place_12 : decode b_R_place 12 = .ok (.iload_n 2, 1) := by decide +kernel
theorem d_R_place_13 : decode b_R_place 13 = .ok (.iconst 1, 1) := by decide +kernel
theorem d_R_place_14 : decode b_R_place 14 = .ok (.if_icmp .le 7, 3) := by decide +kernel
theorem d_R_place_17 : decode b_R_place 17 = .ok (.iconst 0, 1) := by decide +kernel
theorem d_R_place_18 : decode b_R_place 18 = .ok (.goto 22, 3) := by decide +kernel
theorem d_R_place_21 : decode b_R_place 21 = .ok (.iload_n 2, 1) := by decide +kernel
theorem d_R_place_22 : decode b_R_place 22 = .ok (.ifCond .ne 12, 3) := by decide +kernel
theorem d_R_place_25 : decode b_R_place 25 = .ok (.aload_n 0, 1) := by decide +kernel
theorem d_R_place_26 : decode b_R_place 26 = .ok (.getfield 7, 3) := by decide +kernel
theorem d_R_place_29 : decode b_R_place 29 = .ok (.iload_n 1, 1) := by decide +kernel
theorem d_R_place_30 : decode b_R_place 30 = .ok (.iaload, 1) := by decide +kernel
theorem d_R_place_31 : decode b_R_place 31 = .ok (.goto 9, 3) := by decide +kernel
theorem d_R_place_34 : decode b_R_place 34 = .ok (.aload_n 0, 1) := by decide +kernel
theorem d_R_place_35 : decode b_R_place 35 = .ok (.getfield 13, 3) := by decide +kernel
theorem d_R_place_38 : decode b_R_place 38 = .ok (.iload_n 1, 1) := by decide +kernel
theorem d_R_place_39 : decode b_R_place 39 = .ok (.iaload, 1) := by decide +kernel
theorem d_R_place_40 : decode b_R_place 40 = .ok (.ireturn, 1) := by decide +kernel
