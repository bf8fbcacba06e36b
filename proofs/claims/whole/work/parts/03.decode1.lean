theorem dX8_told_22 : decode cX8_told 22 = .ok (.aload_n 0, 1) := by decide +kernel
theorem dX8_told_23 : decode cX8_told 23 = .ok (.getfield 33, 3) := by decide +kernel
theorem dX8_told_26 : decode cX8_told 26 = .ok (.iconst 0, 1) := by decide +kernel
theorem dX8_told_27 : decode cX8_told 27 = .ok (.putfield 73, 3) := by decide +kernel
theorem dX8_told_30 : decode cX8_told 30 = .ok (.iload_n 2, 1) := by decide +kernel
theorem dX8_told_31 : decode cX8_told 31 = .ok (.ifCond .eq 15, 3) := by decide +kernel
theorem dX8_told_34 : decode cX8_told 34 = .ok (.aload_n 0, 1) := by decide +kernel
theorem dX8_told_35 : decode cX8_told 35 = .ok (.iload_n 1, 1) := by decide +kernel
theorem dX8_told_36 : decode cX8_told 36 = .ok (.aload_n 0, 1) := by decide +kernel
theorem dX8_told_37 : decode cX8_told 37 = .ok (.getfield 16, 3) := by decide +kernel
theorem dX8_told_40 : decode cX8_told 40 = .ok (.invokevirtual 84, 3) := by decide +kernel
theorem dX8_told_43 : decode cX8_told 43 = .ok (.goto 5, 3) := by decide +kernel
theorem dX8_told_46 : decode cX8_told 46 = .ok (.bipush (-4), 2) := by decide +kernel
theorem dX8_told_48 : decode cX8_told 48 = .ok (.ireturn, 1) := by decide +kernel
theorem dX8_fault_0 : decode cX8_fault 0 = .ok (.iload_n 1, 1) := by decide +kernel
theorem dX8_fault_1 : decode cX8_fault 1 = .ok (.ifCond .ne 11, 3) := by decide +kernel
theorem dX8_fault_4 : decode cX8_fault 4 = .ok (.aload_n 0, 1) := by decide +kernel
theorem dX8_fault_5 : decode cX8_fault 5 = .ok (.getfield 33, 3) := by decide +kernel
theorem dX8_fault_8 : decode cX8_fault 8 = .ok (.getfield 88, 3) := by decide +kernel
theorem dX8_fault_11 : decode cX8_fault 11 = .ok (.ireturn, 1) := by decide +kernel
theorem dX8_fault_12 : decode cX8_fault 12 = .ok (.iload_n 1, 1) := by decide +kernel
theorem dX8_fault_13 : decode cX8_fault 13 = .ok (.iconst 1, 1) := by decide +kernel
theorem dX8_fault_14 : decode cX8_fault 14 = .ok (.if_icmp .ne 13, 3) := by decide +kernel
theorem dX8_fault_17 : decode cX8_fault 17 = .ok (.aload_n 0, 1) := by decide +kernel
theorem dX8_fault_18 : decode cX8_fault 18 = .ok (.getfield 33, 3) := by decide +kernel
theorem dX8_fault_21 : decode cX8_fault 21 = .ok (.getfield 91, 3) := by decide +kernel
theorem dX8_fault_24 : decode cX8_fault 24 = .ok (.goto 4, 3) := by decide +kernel
theorem dX8_fault_27 : decode cX8_fault 27 = .ok (.iconst (-1), 1) := by decide +kernel
theorem dX8_fault_28 : decode cX8_fault 28 = .ok (.ireturn, 1) := by decide +kernel
theorem dX8_count_0 : decode cX8_count 0 = .ok (.iload_n 1, 1) := by decide +kernel
theorem dX8_count_1 : decode cX8_count 1 = .ok (.tableswitch 60 0 3 #[31, 36, 44, 52], 31) := by decide +kernel
theorem dX8_count_32 : decode cX8_count 32 = .ok (.aload_n 0, 1) := by decide +kernel
theorem dX8_count_33 : decode cX8_count 33 = .ok (.invokevirtual 94, 3) := by decide +kernel
theorem dX8_count_36 : decode cX8_count 36 = .ok (.ireturn, 1) := by decide +kernel
theorem dX8_count_37 : decode cX8_count 37 = .ok (.aload_n 0, 1) := by decide +kernel
theorem dX8_count_38 : decode cX8_count 38 = .ok (.getfield 47, 3) := by decide +kernel
theorem dX8_count_41 : decode cX8_count 41 = .ok (.getfield 98, 3) := by decide +kernel
theorem dX8_count_44 : decode cX8_count 44 = .ok (.ireturn, 1) := by decide +kernel
theorem dX8_count_45 : decode cX8_count 45 = .ok (.aload_n 0, 1) := by decide +kernel
theorem dX8_count_46 : decode cX8_count 46 = .ok (.getfield 33, 3) := by decide +kernel
theorem dX8_count_49 : decode cX8_count 49 = .ok (.getfield 73, 3) := by decide +kernel
theorem dX8_count_52 : decode cX8_count 52 = .ok (.ireturn, 1) := by decide +kernel
theorem dX8_count_53 : decode cX8_count 53 = .ok (.aload_n 0, 1) := by decide +kernel
theorem dX8_count_54 : decode cX8_count 54 = .ok (.getfield 40, 3) := by decide +kernel
theorem dX8_count_57 : decode cX8_count 57 = .ok (.getfield 101, 3) := by decide +kernel
theorem dX8_count_60 : decode cX8_count 60 = .ok (.ireturn, 1) := by decide +kernel
theorem dX8_count_61 : decode cX8_count 61 = .ok (.iconst (-1), 1) := by decide +kernel
theorem dX8_count_62 : decode cX8_count 62 = .ok (.ireturn, 1) := by decide +kernel
theorem dX8_look_0 : decode cX8_look 0 = .ok (.aload_n 0, 1) := by decide +kernel
theorem dX8_look_1 : decode cX8_look 1 = .ok (.iload_n 1, 1) := by decide +kernel
theorem dX8_look_2 : decode cX8_look 2 = .ok (.invokevirtual 102, 3) := by decide +kernel
theorem dX8_look_5 : decode cX8_look 5 = .ok (.astore_n 3, 1) := by decide +kernel
theorem dX8_look_6 : decode cX8_look 6 = .ok (.aload_n 3, 1) := by decide +kernel
theorem dX8_look_7 : decode cX8_look 7 = .ok (.ifnull 10, 3) := by decide +kernel
theorem dX8_look_10 : decode cX8_look 10 = .ok (.iload_n 2, 1) := by decide +kernel
theorem dX8_look_11 : decode cX8_look 11 = .ok (.invokestatic 106, 3) := by decide +kernel
theorem dX8_look_14 : decode cX8_look 14 = .ok (.ifCond .ne 6, 3) := by decide +kernel
theorem dX8_look_17 : decode cX8_look 17 = .ok (.bipush (-2), 2) := by decide +kernel
theorem dX8_look_19 : decode cX8_look 19 = .ok (.ireturn, 1) := by decide +kernel
theorem dX8_look_20 : decode cX8_look 20 = .ok (.aload_n 0, 1) := by decide +kernel
theorem dX8_look_21 : decode cX8_look 21 = .ok (.aload_n 3, 1) := by decide +kernel
theorem dX8_look_22 : decode cX8_look 22 = .ok (.iload_n 2, 1) := by decide +kernel
theorem dX8_look_23 : decode cX8_look 23 = .ok (.invokevirtual 109, 3) := by decide +kernel
theorem dX8_look_26 : decode cX8_look 26 = .ok (.ireturn, 1) := by decide +kernel
theorem dX8_set_0 : decode cX8_set 0 = .ok (.aload_n 0, 1) := by decide +kernel
theorem dX8_set_1 : decode cX8_set 1 = .ok (.iload_n 1, 1) := by decide +kernel
theorem dX8_set_2 : decode cX8_set 2 = .ok (.invokevirtual 102, 3) := by decide +kernel
theorem dX8_set_5 : decode cX8_set 5 = .ok (.astore_n 3, 1) := by decide +kernel
theorem dX8_set_6 : decode cX8_set 6 = .ok (.aload_n 3, 1) := by decide +kernel
theorem dX8_set_7 : decode cX8_set 7 = .ok (.ifnull 7, 3) := by decide +kernel
theorem dX8_set_10 : decode cX8_set 10 = .ok (.iload_n 2, 1) := by decide +kernel
theorem dX8_set_11 : decode cX8_set 11 = .ok (.ifCond .ge 6, 3) := by decide +kernel
theorem dX8_set_14 : decode cX8_set 14 = .ok (.bipush (-2), 2) := by decide +kernel
theorem dX8_set_16 : decode cX8_set 16 = .ok (.ireturn, 1) := by decide +kernel
theorem dX8_set_17 : decode cX8_set 17 = .ok (.aload_n 3, 1) := by decide +kernel
theorem dX8_set_18 : decode cX8_set 18 = .ok (.iload_n 2, 1) := by decide +kernel
theorem dX8_set_19 : decode cX8_set 19 = .ok (.invokevirtual 113, 3) := by decide +kernel
theorem dX8_set_22 : decode cX8_set 22 = .ok (.ireturn, 1) := by decide +kernel
theorem dX8_has_0 : decode cX8_has 0 = .ok (.aload_n 0, 1) := by decide +kernel
theorem dX8_has_1 : decode cX8_has 1 = .ok (.iload_n 1, 1) := by decide +kernel
theorem dX8_has_2 : decode cX8_has 2 = .ok (.invokevirtual 102, 3) := by decide +kernel
theorem dX8_has_5 : decode cX8_has 5 = .ok (.astore_n 3, 1) := by decide +kernel
theorem dX8_has_6 : decode cX8_has 6 = .ok (.aload_n 3, 1) := by decide +kernel
theorem dX8_has_7 : decode cX8_has 7 = .ok (.ifnull 11, 3) := by decide +kernel
theorem dX8_has_10 : decode cX8_has 10 = .ok (.aload_n 3, 1) := by decide +kernel
theorem dX8_has_11 : decode cX8_has 11 = .ok (.iload_n 2, 1) := by decide +kernel
theorem dX8_has_12 : decode cX8_has 12 = .ok (.invokevirtual 117, 3) := by decide +kernel
theorem dX8_has_15 : decode cX8_has 15 = .ok (.ifCond .ne 6, 3) := by decide +kernel
theorem dX8_has_18 : decode cX8_has 18 = .ok (.bipush (-2), 2) := by decide +kernel
theorem dX8_has_20 : decode cX8_has 20 = .ok (.ireturn, 1) := by decide +kernel
theorem dX8_has_21 : decode cX8_has 21 = .ok (.aload_n 3, 1) := by decide +kernel
theorem dX8_has_22 : decode cX8_has 22 = .ok (.iload_n 2, 1) := by decide +kernel
theorem dX8_has_23 : decode cX8_has 23 = .ok (.invokevirtual 120, 3) := by decide +kernel
theorem dX8_has_26 : decode cX8_has 26 = .ok (.ifCond .eq 7, 3) := by decide +kernel
theorem dX8_has_29 : decode cX8_has 29 = .ok (.iconst 1, 1) := by decide +kernel
theorem dX8_has_30 : decode cX8_has 30 = .ok (.goto 4, 3) := by decide +kernel
theorem dX8_has_33 : decode cX8_has 33 = .ok (.iconst 0, 1) := by decide +kernel
theorem dX8_has_34 : decode cX8_has 34 = .ok (.ireturn, 1) := by decide +kernel
theorem dX8_is_0 : decode cX8_is 0 = .ok (.aload_n 0, 1) := by decide +kernel
theorem dX8_is_1 : decode cX8_is 1 = .ok (.iload_n 1, 1) := by decide +kernel
theorem dX8_is_2 : decode cX8_is 2 = .ok (.invokevirtual 102, 3) := by decide +kernel
theorem dX8_is_5 : decode cX8_is 5 = .ok (.astore_n 3, 1) := by decide +kernel
theorem dX8_is_6 : decode cX8_is 6 = .ok (.aload_n 3, 1) := by decide +kernel
theorem dX8_is_7 : decode cX8_is 7 = .ok (.ifnull 13, 3) := by decide +kernel
theorem dX8_is_10 : decode cX8_is 10 = .ok (.iload_n 2, 1) := by decide +kernel
theorem dX8_is_11 : decode cX8_is 11 = .ok (.ifCond .lt 9, 3) := by decide +kernel
theorem dX8_is_14 : decode cX8_is 14 = .ok (.iload_n 2, 1) := by decide +kernel
theorem dX8_is_15 : decode cX8_is 15 = .ok (.bipush 10, 2) := by decide +kernel
theorem dX8_is_17 : decode cX8_is 17 = .ok (.if_icmp .le 6, 3) := by decide +kernel
theorem dX8_is_20 : decode cX8_is 20 = .ok (.bipush (-2), 2) := by decide +kernel
theorem dX8_is_22 : decode cX8_is 22 = .ok (.ireturn, 1) := by decide +kernel
theorem dX8_is_23 : decode cX8_is 23 = .ok (.aload_n 0, 1) := by decide +kernel
theorem dX8_is_24 : decode cX8_is 24 = .ok (.aload_n 3, 1) := by decide +kernel
theorem dX8_is_25 : decode cX8_is 25 = .ok (.iload_n 2, 1) := by decide +kernel
theorem dX8_is_26 : decode cX8_is 26 = .ok (.invokevirtual 123, 3) := by decide +kernel
theorem dX8_is_29 : decode cX8_is 29 = .ok (.ifCond .eq 7, 3) := by decide +kernel
theorem dX8_is_32 : decode cX8_is 32 = .ok (.iconst 1, 1) := by decide +kernel
theorem dX8_is_33 : decode cX8_is 33 = .ok (.goto 4, 3) := by decide +kernel
theorem dX8_is_36 : decode cX8_is 36 = .ok (.iconst 0, 1) := by decide +kernel
theorem dX8_is_37 : decode cX8_is 37 = .ok (.ireturn, 1) := by decide +kernel
theorem dX8_degree_0 : decode cX8_degree 0 = .ok (.aload_n 0, 1) := by decide +kernel
theorem dX8_degree_1 : decode cX8_degree 1 = .ok (.iload_n 1, 1) := by decide +kernel
theorem dX8_degree_2 : decode cX8_degree 2 = .ok (.invokevirtual 102, 3) := by decide +kernel
theorem dX8_degree_5 : decode cX8_degree 5 = .ok (.astore_n 3, 1) := by decide +kernel
theorem dX8_degree_6 : decode cX8_degree 6 = .ok (.aload_n 3, 1) := by decide +kernel
theorem dX8_degree_7 : decode cX8_degree 7 = .ok (.ifnull 11, 3) := by decide +kernel
theorem dX8_degree_10 : decode cX8_degree 10 = .ok (.aload_n 3, 1) := by decide +kernel
theorem dX8_degree_11 : decode cX8_degree 11 = .ok (.iload_n 2, 1) := by decide +kernel
theorem dX8_degree_12 : decode cX8_degree 12 = .ok (.invokevirtual 127, 3) := by decide +kernel
theorem dX8_degree_15 : decode cX8_degree 15 = .ok (.ifCond .ne 6, 3) := by decide +kernel
theorem dX8_degree_18 : decode cX8_degree 18 = .ok (.bipush (-2), 2) := by decide +kernel
theorem dX8_degree_20 : decode cX8_degree 20 = .ok (.ireturn, 1) := by decide +kernel
theorem dX8_degree_21 : decode cX8_degree 21 = .ok (.aload_n 3, 1) := by decide +kernel
theorem dX8_degree_22 : decode cX8_degree 22 = .ok (.iload_n 2, 1) := by decide +kernel
theorem dX8_degree_23 : decode cX8_degree 23 = .ok (.invokevirtual 130, 3) := by decide +kernel
theorem dX8_degree_26 : decode cX8_degree 26 = .ok (.ireturn, 1) := by decide +kernel
theorem dX8_order_0 : decode cX8_order 0 = .ok (.aload_n 0, 1) := by decide +kernel
theorem dX8_order_1 : decode cX8_order 1 = .ok (.iload_n 1, 1) := by decide +kernel
theorem dX8_order_2 : decode cX8_order 2 = .ok (.invokevirtual 102, 3) := by decide +kernel
theorem dX8_order_5 : decode cX8_order 5 = .ok (.astore_n 3, 1) := by decide +kernel
theorem dX8_order_6 : decode cX8_order 6 = .ok (.aload_n 3, 1) := by decide +kernel
theorem dX8_order_7 : decode cX8_order 7 = .ok (.ifnull 11, 3) := by decide +kernel
theorem dX8_order_10 : decode cX8_order 10 = .ok (.aload_n 3, 1) := by decide +kernel
theorem dX8_order_11 : decode cX8_order 11 = .ok (.iload_n 2, 1) := by decide +kernel
theorem dX8_order_12 : decode cX8_order 12 = .ok (.invokevirtual 127, 3) := by decide +kernel
theorem dX8_order_15 : decode cX8_order 15 = .ok (.ifCond .ne 6, 3) := by decide +kernel
theorem dX8_order_18 : decode cX8_order 18 = .ok (.bipush (-2), 2) := by decide +kernel
theorem dX8_order_20 : decode cX8_order 20 = .ok (.ireturn, 1) := by decide +kernel
theorem dX8_order_21 : decode cX8_order 21 = .ok (.iconst 0, 1) := by decide +kernel
theorem dX8_order_22 : decode cX8_order 22 = .ok (.istore 4, 2) := by decide +kernel
theorem dX8_order_24 : decode cX8_order 24 = .ok (.iload 4, 2) := by decide +kernel
theorem dX8_order_26 : decode cX8_order 26 = .ok (.aload_n 3, 1) := by decide +kernel
theorem dX8_order_27 : decode cX8_order 27 = .ok (.getfield 133, 3) := by decide +kernel
theorem dX8_order_30 : decode cX8_order 30 = .ok (.if_icmp .ge 22, 3) := by decide +kernel
theorem dX8_order_33 : decode cX8_order 33 = .ok (.aload_n 3, 1) := by decide +kernel
theorem dX8_order_34 : decode cX8_order 34 = .ok (.iload 4, 2) := by decide +kernel
theorem dX8_order_36 : decode cX8_order 36 = .ok (.invokestatic 136, 3) := by decide +kernel
theorem dX8_order_39 : decode cX8_order 39 = .ok (.iload_n 2, 1) := by decide +kernel
theorem dX8_order_40 : decode cX8_order 40 = .ok (.if_icmp .ne 6, 3) := by decide +kernel
theorem dX8_order_43 : decode cX8_order 43 = .ok (.iload 4, 2) := by decide +kernel
theorem dX8_order_45 : decode cX8_order 45 = .ok (.ireturn, 1) := by decide +kernel
theorem dX8_order_46 : decode cX8_order 46 = .ok (.iinc 4 1, 3) := by decide +kernel
theorem dX8_order_49 : decode cX8_order 49 = .ok (.goto (-25), 3) := by decide +kernel
theorem dX8_order_52 : decode cX8_order 52 = .ok (.bipush (-2), 2) := by decide +kernel
theorem dX8_order_54 : decode cX8_order 54 = .ok (.ireturn, 1) := by decide +kernel
theorem dX8_level_0 : decode cX8_level 0 = .ok (.aload_n 0, 1) := by decide +kernel
theorem dX8_level_1 : decode cX8_level 1 = .ok (.iload_n 1, 1) := by decide +kernel
theorem dX8_level_2 : decode cX8_level 2 = .ok (.invokevirtual 102, 3) := by decide +kernel
theorem dX8_level_5 : decode cX8_level 5 = .ok (.astore_n 3, 1) := by decide +kernel
theorem dX8_level_6 : decode cX8_level 6 = .ok (.aload_n 3, 1) := by decide +kernel
theorem dX8_level_7 : decode cX8_level 7 = .ok (.ifnull 15, 3) := by decide +kernel
theorem dX8_level_10 : decode cX8_level 10 = .ok (.iload_n 2, 1) := by decide +kernel
theorem dX8_level_11 : decode cX8_level 11 = .ok (.ifCond .lt 11, 3) := by decide +kernel
theorem dX8_level_14 : decode cX8_level 14 = .ok (.iload_n 2, 1) := by decide +kernel
theorem dX8_level_15 : decode cX8_level 15 = .ok (.aload_n 3, 1) := by decide +kernel
theorem dX8_level_16 : decode cX8_level 16 = .ok (.getfield 133, 3) := by decide +kernel
theorem dX8_level_19 : decode cX8_level 19 = .ok (.if_icmp .le 6, 3) := by decide +kernel
theorem dX8_level_22 : decode cX8_level 22 = .ok (.bipush (-2), 2) := by decide +kernel
theorem dX8_level_24 : decode cX8_level 24 = .ok (.ireturn, 1) := by decide +kernel
theorem dX8_level_25 : decode cX8_level 25 = .ok (.aload_n 3, 1) := by decide +kernel
theorem dX8_level_26 : decode cX8_level 26 = .ok (.iload_n 2, 1) := by decide +kernel
theorem dX8_level_27 : decode cX8_level 27 = .ok (.invokevirtual 139, 3) := by decide +kernel
theorem dX8_level_30 : decode cX8_level 30 = .ok (.ireturn, 1) := by decide +kernel
theorem dX8_makes_0 : decode cX8_makes 0 = .ok (.aload_n 0, 1) := by decide +kernel
theorem dX8_makes_1 : decode cX8_makes 1 = .ok (.iload_n 1, 1) := by decide +kernel
theorem dX8_makes_2 : decode cX8_makes 2 = .ok (.invokevirtual 102, 3) := by decide +kernel
theorem dX8_makes_5 : decode cX8_makes 5 = .ok (.astore 4, 2) := by decide +kernel
theorem dX8_makes_7 : decode cX8_makes 7 = .ok (.aload 4, 2) := by decide +kernel
theorem dX8_makes_9 : decode cX8_makes 9 = .ok (.ifnull 20, 3) := by decide +kernel
theorem dX8_makes_12 : decode cX8_makes 12 = .ok (.iload_n 2, 1) := by decide +kernel
theorem dX8_makes_13 : decode cX8_makes 13 = .ok (.ifCond .lt 16, 3) := by decide +kernel
theorem dX8_makes_16 : decode cX8_makes 16 = .ok (.iload_n 2, 1) := by decide +kernel
theorem dX8_makes_17 : decode cX8_makes 17 = .ok (.bipush 9, 2) := by decide +kernel
theorem dX8_makes_19 : decode cX8_makes 19 = .ok (.if_icmp .gt 10, 3) := by decide +kernel
theorem dX8_makes_22 : decode cX8_makes 22 = .ok (.iload_n 3, 1) := by decide +kernel
theorem dX8_makes_23 : decode cX8_makes 23 = .ok (.invokestatic 77, 3) := by decide +kernel
theorem dX8_makes_26 : decode cX8_makes 26 = .ok (.ifCond .ne 6, 3) := by decide +kernel
theorem dX8_makes_29 : decode cX8_makes 29 = .ok (.bipush (-2), 2) := by decide +kernel
theorem dX8_makes_31 : decode cX8_makes 31 = .ok (.ireturn, 1) := by decide +kernel
theorem dX8_makes_32 : decode cX8_makes 32 = .ok (.aload_n 0, 1) := by decide +kernel
theorem dX8_makes_33 : decode cX8_makes 33 = .ok (.aload 4, 2) := by decide +kernel
theorem dX8_makes_35 : decode cX8_makes 35 = .ok (.iload_n 2, 1) := by decide +kernel
theorem dX8_makes_36 : decode cX8_makes 36 = .ok (.invokevirtual 142, 3) := by decide +kernel
theorem dX8_makes_39 : decode cX8_makes 39 = .ok (.aload_n 0, 1) := by decide +kernel
theorem dX8_makes_40 : decode cX8_makes 40 = .ok (.iload_n 3, 1) := by decide +kernel
theorem dX8_makes_41 : decode cX8_makes 41 = .ok (.aload_n 0, 1) := by decide +kernel
theorem dX8_makes_42 : decode cX8_makes 42 = .ok (.getfield 16, 3) := by decide +kernel
theorem dX8_makes_45 : decode cX8_makes 45 = .ok (.invokevirtual 84, 3) := by decide +kernel
theorem dX8_makes_48 : decode cX8_makes 48 = .ok (.ireturn, 1) := by decide +kernel
theorem dX8_part_0 : decode cX8_part 0 = .ok (.aload_n 0, 1) := by decide +kernel
theorem dX8_part_1 : decode cX8_part 1 = .ok (.iload_n 1, 1) := by decide +kernel
theorem dX8_part_2 : decode cX8_part 2 = .ok (.invokevirtual 102, 3) := by decide +kernel
theorem dX8_part_5 : decode cX8_part 5 = .ok (.astore 5, 2) := by decide +kernel
theorem dX8_part_7 : decode cX8_part 7 = .ok (.aload 5, 2) := by decide +kernel
theorem dX8_part_9 : decode cX8_part 9 = .ok (.ifnull 29, 3) := by decide +kernel
theorem dX8_part_12 : decode cX8_part 12 = .ok (.aload 5, 2) := by decide +kernel
theorem dX8_part_14 : decode cX8_part 14 = .ok (.iload_n 2, 1) := by decide +kernel
theorem dX8_part_15 : decode cX8_part 15 = .ok (.invokevirtual 127, 3) := by decide +kernel
theorem dX8_part_18 : decode cX8_part 18 = .ok (.ifCond .eq 20, 3) := by decide +kernel
theorem dX8_part_21 : decode cX8_part 21 = .ok (.iload_n 3, 1) := by decide +kernel
theorem dX8_part_22 : decode cX8_part 22 = .ok (.ifCond .lt 16, 3) := by decide +kernel
theorem dX8_part_25 : decode cX8_part 25 = .ok (.iload_n 3, 1) := by decide +kernel
theorem dX8_part_26 : decode cX8_part 26 = .ok (.iconst 1, 1) := by decide +kernel
theorem dX8_part_27 : decode cX8_part 27 = .ok (.if_icmp .gt 11, 3) := by decide +kernel
theorem dX8_part_30 : decode cX8_part 30 = .ok (.iload 4, 2) := by decide +kernel
theorem dX8_part_32 : decode cX8_part 32 = .ok (.invokestatic 77, 3) := by decide +kernel
theorem dX8_part_35 : decode cX8_part 35 = .ok (.ifCond .ne 6, 3) := by decide +kernel
theorem dX8_part_38 : decode cX8_part 38 = .ok (.bipush (-2), 2) := by decide +kernel
theorem dX8_part_40 : decode cX8_part 40 = .ok (.ireturn, 1) := by decide +kernel
theorem dX8_part_41 : decode cX8_part 41 = .ok (.iload_n 3, 1) := by decide +kernel
theorem dX8_part_42 : decode cX8_part 42 = .ok (.ifCond .ne 28, 3) := by decide +kernel
theorem dX8_part_45 : decode cX8_part 45 = .ok (.aload_n 0, 1) := by decide +kernel
theorem dX8_part_46 : decode cX8_part 46 = .ok (.getfield 16, 3) := by decide +kernel
theorem dX8_part_49 : decode cX8_part 49 = .ok (.aload 5, 2) := by decide +kernel
theorem dX8_part_51 : decode cX8_part 51 = .ok (.getfield 133, 3) := by decide +kernel
theorem dX8_part_54 : decode cX8_part 54 = .ok (.invokevirtual 146, 3) := by decide +kernel
theorem dX8_part_57 : decode cX8_part 57 = .ok (.aload_n 0, 1) := by decide +kernel
theorem dX8_part_58 : decode cX8_part 58 = .ok (.getfield 16, 3) := by decide +kernel
theorem dX8_part_61 : decode cX8_part 61 = .ok (.aload 5, 2) := by decide +kernel
theorem dX8_part_63 : decode cX8_part 63 = .ok (.iload_n 2, 1) := by decide +kernel
theorem dX8_part_64 : decode cX8_part 64 = .ok (.invokevirtual 149, 3) := by decide +kernel
theorem dX8_part_67 : decode cX8_part 67 = .ok (.goto 20, 3) := by decide +kernel
theorem dX8_part_70 : decode cX8_part 70 = .ok (.aload_n 0, 1) := by decide +kernel
theorem dX8_part_71 : decode cX8_part 71 = .ok (.getfield 16, 3) := by decide +kernel
theorem dX8_part_74 : decode cX8_part 74 = .ok (.aload 5, 2) := by decide +kernel
theorem dX8_part_76 : decode cX8_part 76 = .ok (.invokevirtual 152, 3) := by decide +kernel
theorem dX8_part_79 : decode cX8_part 79 = .ok (.aload_n 0, 1) := by decide +kernel
theorem dX8_part_80 : decode cX8_part 80 = .ok (.getfield 16, 3) := by decide +kernel
theorem dX8_part_83 : decode cX8_part 83 = .ok (.iload_n 2, 1) := by decide +kernel
theorem dX8_part_84 : decode cX8_part 84 = .ok (.invokevirtual 156, 3) := by decide +kernel
theorem dX8_part_87 : decode cX8_part 87 = .ok (.aload_n 0, 1) := by decide +kernel
theorem dX8_part_88 : decode cX8_part 88 = .ok (.iload 4, 2) := by decide +kernel
theorem dX8_part_90 : decode cX8_part 90 = .ok (.aload_n 0, 1) := by decide +kernel
theorem dX8_part_91 : decode cX8_part 91 = .ok (.getfield 16, 3) := by decide +kernel
theorem dX8_part_94 : decode cX8_part 94 = .ok (.invokevirtual 84, 3) := by decide +kernel
theorem dX8_part_97 : decode cX8_part 97 = .ok (.ireturn, 1) := by decide +kernel
theorem dX8_shift_0 : decode cX8_shift 0 = .ok (.aload_n 0, 1) := by decide +kernel
theorem dX8_shift_1 : decode cX8_shift 1 = .ok (.iload_n 1, 1) := by decide +kernel
theorem dX8_shift_2 : decode cX8_shift 2 = .ok (.invokevirtual 102, 3) := by decide +kernel
theorem dX8_shift_5 : decode cX8_shift 5 = .ok (.astore 4, 2) := by decide +kernel
theorem dX8_shift_7 : decode cX8_shift 7 = .ok (.aload 4, 2) := by decide +kernel
theorem dX8_shift_9 : decode cX8_shift 9 = .ok (.ifnull 13, 3) := by decide +kernel
theorem dX8_shift_12 : decode cX8_shift 12 = .ok (.aload 4, 2) := by decide +kernel
theorem dX8_shift_14 : decode cX8_shift 14 = .ok (.iload_n 2, 1) := by decide +kernel
theorem dX8_shift_15 : decode cX8_shift 15 = .ok (.iload_n 3, 1) := by decide +kernel
theorem dX8_shift_16 : decode cX8_shift 16 = .ok (.invokestatic 159, 3) := by decide +kernel
theorem dX8_shift_19 : decode cX8_shift 19 = .ok (.ifCond .ne 6, 3) := by decide +kernel
theorem dX8_shift_22 : decode cX8_shift 22 = .ok (.bipush (-2), 2) := by decide +kernel
theorem dX8_shift_24 : decode cX8_shift 24 = .ok (.ireturn, 1) := by decide +kernel
theorem dX8_shift_25 : decode cX8_shift 25 = .ok (.aload_n 0, 1) := by decide +kernel
theorem dX8_shift_26 : decode cX8_shift 26 = .ok (.getfield 23, 3) := by decide +kernel
theorem dX8_shift_29 : decode cX8_shift 29 = .ok (.aload 4, 2) := by decide +kernel
theorem dX8_shift_31 : decode cX8_shift 31 = .ok (.invokevirtual 152, 3) := by decide +kernel
theorem dX8_shift_34 : decode cX8_shift 34 = .ok (.aload_n 0, 1) := by decide +kernel
theorem dX8_shift_35 : decode cX8_shift 35 = .ok (.aload_n 0, 1) := by decide +kernel
theorem dX8_shift_36 : decode cX8_shift 36 = .ok (.getfield 23, 3) := by decide +kernel
theorem dX8_shift_39 : decode cX8_shift 39 = .ok (.iload_n 2, 1) := by decide +kernel
theorem dX8_shift_40 : decode cX8_shift 40 = .ok (.iload_n 3, 1) := by decide +kernel
theorem dX8_shift_41 : decode cX8_shift 41 = .ok (.invokevirtual 163, 3) := by decide +kernel
theorem dX8_shift_44 : decode cX8_shift 44 = .ok (.istore 5, 2) := by decide +kernel
theorem dX8_shift_46 : decode cX8_shift 46 = .ok (.aload_n 0, 1) := by decide +kernel
theorem dX8_shift_47 : decode cX8_shift 47 = .ok (.iload_n 1, 1) := by decide +kernel
theorem dX8_shift_48 : decode cX8_shift 48 = .ok (.aload_n 0, 1) := by decide +kernel
theorem dX8_shift_49 : decode cX8_shift 49 = .ok (.getfield 23, 3) := by decide +kernel
theorem dX8_shift_52 : decode cX8_shift 52 = .ok (.invokevirtual 84, 3) := by decide +kernel
theorem dX8_shift_55 : decode cX8_shift 55 = .ok (.pop, 1) := by decide +kernel
theorem dX8_shift_56 : decode cX8_shift 56 = .ok (.iload 5, 2) := by decide +kernel
theorem dX8_shift_58 : decode cX8_shift 58 = .ok (.ireturn, 1) := by decide +kernel
theorem dX8_would_0 : decode cX8_would 0 = .ok (.aload_n 0, 1) := by decide +kernel
theorem dX8_would_1 : decode cX8_would 1 = .ok (.iload_n 1, 1) := by decide +kernel
theorem dX8_would_2 : decode cX8_would 2 = .ok (.invokevirtual 102, 3) := by decide +kernel
theorem dX8_would_5 : decode cX8_would 5 = .ok (.astore 4, 2) := by decide +kernel
theorem dX8_would_7 : decode cX8_would 7 = .ok (.aload 4, 2) := by decide +kernel
theorem dX8_would_9 : decode cX8_would 9 = .ok (.ifnull 13, 3) := by decide +kernel
theorem dX8_would_12 : decode cX8_would 12 = .ok (.aload 4, 2) := by decide +kernel
theorem dX8_would_14 : decode cX8_would 14 = .ok (.iload_n 2, 1) := by decide +kernel
theorem dX8_would_15 : decode cX8_would 15 = .ok (.iload_n 3, 1) := by decide +kernel
theorem dX8_would_16 : decode cX8_would 16 = .ok (.invokestatic 159, 3) := by decide +kernel
theorem dX8_would_19 : decode cX8_would 19 = .ok (.ifCond .ne 6, 3) := by decide +kernel
theorem dX8_would_22 : decode cX8_would 22 = .ok (.bipush (-2), 2) := by decide +kernel
theorem dX8_would_24 : decode cX8_would 24 = .ok (.ireturn, 1) := by decide +kernel
theorem dX8_would_25 : decode cX8_would 25 = .ok (.aload_n 0, 1) := by decide +kernel
theorem dX8_would_26 : decode cX8_would 26 = .ok (.aload 4, 2) := by decide +kernel
theorem dX8_would_28 : decode cX8_would 28 = .ok (.iload_n 2, 1) := by decide +kernel
theorem dX8_would_29 : decode cX8_would 29 = .ok (.iload_n 3, 1) := by decide +kernel
theorem dX8_would_30 : decode cX8_would 30 = .ok (.invokevirtual 167, 3) := by decide +kernel
theorem dX8_would_33 : decode cX8_would 33 = .ok (.ireturn, 1) := by decide +kernel
theorem dX8_settles_0 : decode cX8_settles 0 = .ok (.aload_n 0, 1) := by decide +kernel
theorem dX8_settles_1 : decode cX8_settles 1 = .ok (.iload_n 1, 1) := by decide +kernel
theorem dX8_settles_2 : decode cX8_settles 2 = .ok (.invokevirtual 102, 3) := by decide +kernel
theorem dX8_settles_5 : decode cX8_settles 5 = .ok (.astore_n 2, 1) := by decide +kernel
theorem dX8_settles_6 : decode cX8_settles 6 = .ok (.aload_n 2, 1) := by decide +kernel
theorem dX8_settles_7 : decode cX8_settles 7 = .ok (.ifnonnull 6, 3) := by decide +kernel
theorem dX8_settles_10 : decode cX8_settles 10 = .ok (.bipush (-2), 2) := by decide +kernel
theorem dX8_settles_12 : decode cX8_settles 12 = .ok (.ireturn, 1) := by decide +kernel
theorem dX8_settles_13 : decode cX8_settles 13 = .ok (.aload_n 0, 1) := by decide +kernel
theorem dX8_settles_14 : decode cX8_settles 14 = .ok (.getfield 23, 3) := by decide +kernel
theorem dX8_settles_17 : decode cX8_settles 17 = .ok (.aload_n 2, 1) := by decide +kernel
theorem dX8_settles_18 : decode cX8_settles 18 = .ok (.invokevirtual 152, 3) := by decide +kernel
theorem dX8_settles_21 : decode cX8_settles 21 = .ok (.aload_n 0, 1) := by decide +kernel
theorem dX8_settles_22 : decode cX8_settles 22 = .ok (.aload_n 0, 1) := by decide +kernel
theorem dX8_settles_23 : decode cX8_settles 23 = .ok (.getfield 23, 3) := by decide +kernel
theorem dX8_settles_26 : decode cX8_settles 26 = .ok (.invokevirtual 170, 3) := by decide +kernel
theorem dX8_settles_29 : decode cX8_settles 29 = .ok (.istore_n 3, 1) := by decide +kernel
theorem dX8_settles_30 : decode cX8_settles 30 = .ok (.aload_n 0, 1) := by decide +kernel
theorem dX8_settles_31 : decode cX8_settles 31 = .ok (.iload_n 1, 1) := by decide +kernel
theorem dX8_settles_32 : decode cX8_settles 32 = .ok (.aload_n 0, 1) := by decide +kernel
theorem dX8_settles_33 : decode cX8_settles 33 = .ok (.getfield 23, 3) := by decide +kernel
theorem dX8_settles_36 : decode cX8_settles 36 = .ok (.invokevirtual 84, 3) := by decide +kernel
theorem dX8_settles_39 : decode cX8_settles 39 = .ok (.pop, 1) := by decide +kernel
theorem dX8_settles_40 : decode cX8_settles 40 = .ok (.iload_n 3, 1) := by decide +kernel
theorem dX8_settles_41 : decode cX8_settles 41 = .ok (.ireturn, 1) := by decide +kernel
theorem dX8_row_0 : decode cX8_row 0 = .ok (.iload_n 1, 1) := by decide +kernel
theorem dX8_row_1 : decode cX8_row 1 = .ok (.invokestatic 77, 3) := by decide +kernel
theorem dX8_row_4 : decode cX8_row 4 = .ok (.ifCond .eq 19, 3) := by decide +kernel
theorem dX8_row_7 : decode cX8_row 7 = .ok (.iload_n 2, 1) := by decide +kernel
theorem dX8_row_8 : decode cX8_row 8 = .ok (.invokestatic 174, 3) := by decide +kernel
theorem dX8_row_11 : decode cX8_row 11 = .ok (.ifCond .eq 12, 3) := by decide +kernel
theorem dX8_row_14 : decode cX8_row 14 = .ok (.iload_n 3, 1) := by decide +kernel
theorem dX8_row_15 : decode cX8_row 15 = .ok (.ifCond .lt 8, 3) := by decide +kernel
theorem dX8_row_18 : decode cX8_row 18 = .ok (.iload_n 3, 1) := by decide +kernel
theorem dX8_row_19 : decode cX8_row 19 = .ok (.iload_n 2, 1) := by decide +kernel
theorem dX8_row_20 : decode cX8_row 20 = .ok (.if_icmp .le 6, 3) := by decide +kernel
theorem dX8_row_23 : decode cX8_row 23 = .ok (.bipush (-2), 2) := by decide +kernel
theorem dX8_row_25 : decode cX8_row 25 = .ok (.ireturn, 1) := by decide +kernel
theorem dX8_row_26 : decode cX8_row 26 = .ok (.iload 4, 2) := by decide +kernel
theorem dX8_row_28 : decode cX8_row 28 = .ok (.ifCond .lt 15, 3) := by decide +kernel
theorem dX8_row_31 : decode cX8_row 31 = .ok (.iload 4, 2) := by decide +kernel
theorem dX8_row_33 : decode cX8_row 33 = .ok (.i2l, 1) := by decide +kernel
theorem dX8_row_34 : decode cX8_row 34 = .ok (.iload_n 2, 1) := by decide +kernel
theorem dX8_row_35 : decode cX8_row 35 = .ok (.iload_n 3, 1) := by decide +kernel
theorem dX8_row_36 : decode cX8_row 36 = .ok (.invokestatic 177, 3) := by decide +kernel
theorem dX8_row_39 : decode cX8_row 39 = .ok (.lcmp, 1) := by decide +kernel
theorem dX8_row_40 : decode cX8_row 40 = .ok (.ifCond .le 6, 3) := by decide +kernel
theorem dX8_row_43 : decode cX8_row 43 = .ok (.bipush (-2), 2) := by decide +kernel
theorem dX8_row_45 : decode cX8_row 45 = .ok (.ireturn, 1) := by decide +kernel
theorem dX8_row_46 : decode cX8_row 46 = .ok (.aload_n 0, 1) := by decide +kernel
theorem dX8_row_47 : decode cX8_row 47 = .ok (.getfield 16, 3) := by decide +kernel
theorem dX8_row_50 : decode cX8_row 50 = .ok (.iload_n 2, 1) := by decide +kernel
theorem dX8_row_51 : decode cX8_row 51 = .ok (.invokevirtual 146, 3) := by decide +kernel
theorem dX8_row_54 : decode cX8_row 54 = .ok (.iconst (-1), 1) := by decide +kernel
theorem dX8_row_55 : decode cX8_row 55 = .ok (.istore 5, 2) := by decide +kernel
theorem dX8_row_57 : decode cX8_row 57 = .ok (.iconst 0, 1) := by decide +kernel
theorem dX8_row_58 : decode cX8_row 58 = .ok (.istore 6, 2) := by decide +kernel
theorem dX8_row_60 : decode cX8_row 60 = .ok (.iload 6, 2) := by decide +kernel
theorem dX8_row_62 : decode cX8_row 62 = .ok (.iload 4, 2) := by decide +kernel
theorem dX8_row_64 : decode cX8_row 64 = .ok (.if_icmp .ge 27, 3) := by decide +kernel
theorem dX8_row_67 : decode cX8_row 67 = .ok (.iload 5, 2) := by decide +kernel
theorem dX8_row_69 : decode cX8_row 69 = .ok (.iload_n 3, 1) := by decide +kernel
theorem dX8_row_70 : decode cX8_row 70 = .ok (.iload_n 2, 1) := by decide +kernel
theorem dX8_row_71 : decode cX8_row 71 = .ok (.invokestatic 183, 3) := by decide +kernel
theorem dX8_row_74 : decode cX8_row 74 = .ok (.istore 5, 2) := by decide +kernel
theorem dX8_row_76 : decode cX8_row 76 = .ok (.aload_n 0, 1) := by decide +kernel
theorem dX8_row_77 : decode cX8_row 77 = .ok (.getfield 16, 3) := by decide +kernel
theorem dX8_row_80 : decode cX8_row 80 = .ok (.iload 5, 2) := by decide +kernel
theorem dX8_row_82 : decode cX8_row 82 = .ok (.invokevirtual 187, 3) := by decide +kernel
theorem dX8_row_85 : decode cX8_row 85 = .ok (.iinc 6 1, 3) := by decide +kernel
theorem dX8_row_88 : decode cX8_row 88 = .ok (.goto (-28), 3) := by decide +kernel
theorem dX8_row_91 : decode cX8_row 91 = .ok (.aload_n 0, 1) := by decide +kernel
theorem dX8_row_92 : decode cX8_row 92 = .ok (.iload_n 1, 1) := by decide +kernel
theorem dX8_row_93 : decode cX8_row 93 = .ok (.aload_n 0, 1) := by decide +kernel
theorem dX8_row_94 : decode cX8_row 94 = .ok (.getfield 16, 3) := by decide +kernel
theorem dX8_row_97 : decode cX8_row 97 = .ok (.invokevirtual 84, 3) := by decide +kernel
theorem dX8_row_100 : decode cX8_row 100 = .ok (.pop, 1) := by decide +kernel
theorem dX8_row_101 : decode cX8_row 101 = .ok (.iload 5, 2) := by decide +kernel
theorem dX8_row_103 : decode cX8_row 103 = .ok (.ireturn, 1) := by decide +kernel
theorem dX8_all_0 : decode cX8_all 0 = .ok (.iload_n 1, 1) := by decide +kernel
theorem dX8_all_1 : decode cX8_all 1 = .ok (.invokestatic 77, 3) := by decide +kernel
theorem dX8_all_4 : decode cX8_all 4 = .ok (.ifCond .eq 31, 3) := by decide +kernel
theorem dX8_all_7 : decode cX8_all 7 = .ok (.iload_n 2, 1) := by decide +kernel
theorem dX8_all_8 : decode cX8_all 8 = .ok (.invokestatic 174, 3) := by decide +kernel
theorem dX8_all_11 : decode cX8_all 11 = .ok (.ifCond .eq 24, 3) := by decide +kernel
theorem dX8_all_14 : decode cX8_all 14 = .ok (.iload_n 3, 1) := by decide +kernel
theorem dX8_all_15 : decode cX8_all 15 = .ok (.ifCond .lt 20, 3) := by decide +kernel
theorem dX8_all_18 : decode cX8_all 18 = .ok (.iload_n 3, 1) := by decide +kernel
theorem dX8_all_19 : decode cX8_all 19 = .ok (.iload_n 2, 1) := by decide +kernel
theorem dX8_all_20 : decode cX8_all 20 = .ok (.if_icmp .gt 15, 3) := by decide +kernel
theorem dX8_all_23 : decode cX8_all 23 = .ok (.iload 4, 2) := by decide +kernel
theorem dX8_all_25 : decode cX8_all 25 = .ok (.iconst (-1), 1) := by decide +kernel
theorem dX8_all_26 : decode cX8_all 26 = .ok (.if_icmp .lt 9, 3) := by decide +kernel
theorem dX8_all_29 : decode cX8_all 29 = .ok (.iload 4, 2) := by decide +kernel
theorem dX8_all_31 : decode cX8_all 31 = .ok (.iload_n 2, 1) := by decide +kernel
theorem dX8_all_32 : decode cX8_all 32 = .ok (.if_icmp .lt 6, 3) := by decide +kernel
theorem dX8_all_35 : decode cX8_all 35 = .ok (.bipush (-2), 2) := by decide +kernel
theorem dX8_all_37 : decode cX8_all 37 = .ok (.ireturn, 1) := by decide +kernel
theorem dX8_all_38 : decode cX8_all 38 = .ok (.aload_n 0, 1) := by decide +kernel
theorem dX8_all_39 : decode cX8_all 39 = .ok (.getfield 16, 3) := by decide +kernel
theorem dX8_all_42 : decode cX8_all 42 = .ok (.iload_n 2, 1) := by decide +kernel
theorem dX8_all_43 : decode cX8_all 43 = .ok (.invokevirtual 146, 3) := by decide +kernel
theorem dX8_all_46 : decode cX8_all 46 = .ok (.iconst 0, 1) := by decide +kernel
theorem dX8_all_47 : decode cX8_all 47 = .ok (.istore 5, 2) := by decide +kernel
theorem dX8_all_49 : decode cX8_all 49 = .ok (.iload 5, 2) := by decide +kernel
theorem dX8_all_51 : decode cX8_all 51 = .ok (.iconst 1, 1) := by decide +kernel
theorem dX8_all_52 : decode cX8_all 52 = .ok (.iload_n 2, 1) := by decide +kernel
theorem dX8_all_53 : decode cX8_all 53 = .ok (.ishl, 1) := by decide +kernel
theorem dX8_all_54 : decode cX8_all 54 = .ok (.if_icmp .ge 44, 3) := by decide +kernel
theorem dX8_all_57 : decode cX8_all 57 = .ok (.iload 5, 2) := by decide +kernel
theorem dX8_all_59 : decode cX8_all 59 = .ok (.invokestatic 190, 3) := by decide +kernel
theorem dX8_all_62 : decode cX8_all 62 = .ok (.iload_n 3, 1) := by decide +kernel
theorem dX8_all_63 : decode cX8_all 63 = .ok (.if_icmp .ne 29, 3) := by decide +kernel
theorem dX8_all_66 : decode cX8_all 66 = .ok (.iload 4, 2) := by decide +kernel
theorem dX8_all_68 : decode cX8_all 68 = .ok (.iconst (-1), 1) := by decide +kernel
theorem dX8_all_69 : decode cX8_all 69 = .ok (.if_icmp .eq 14, 3) := by decide +kernel
theorem dX8_all_72 : decode cX8_all 72 = .ok (.iload 5, 2) := by decide +kernel
theorem dX8_all_74 : decode cX8_all 74 = .ok (.iload 4, 2) := by decide +kernel
theorem dX8_all_76 : decode cX8_all 76 = .ok (.ishr, 1) := by decide +kernel
theorem dX8_all_77 : decode cX8_all 77 = .ok (.iconst 1, 1) := by decide +kernel
theorem dX8_all_78 : decode cX8_all 78 = .ok (.iand, 1) := by decide +kernel
theorem dX8_all_79 : decode cX8_all 79 = .ok (.iconst 1, 1) := by decide +kernel
theorem dX8_all_80 : decode cX8_all 80 = .ok (.if_icmp .ne 12, 3) := by decide +kernel
theorem dX8_all_83 : decode cX8_all 83 = .ok (.aload_n 0, 1) := by decide +kernel
theorem dX8_all_84 : decode cX8_all 84 = .ok (.getfield 16, 3) := by decide +kernel
theorem dX8_all_87 : decode cX8_all 87 = .ok (.iload 5, 2) := by decide +kernel
theorem dX8_all_89 : decode cX8_all 89 = .ok (.invokevirtual 187, 3) := by decide +kernel
theorem dX8_all_92 : decode cX8_all 92 = .ok (.iinc 5 1, 3) := by decide +kernel
theorem dX8_all_95 : decode cX8_all 95 = .ok (.goto (-46), 3) := by decide +kernel
theorem dX8_all_98 : decode cX8_all 98 = .ok (.aload_n 0, 1) := by decide +kernel
theorem dX8_all_99 : decode cX8_all 99 = .ok (.iload_n 1, 1) := by decide +kernel
theorem dX8_all_100 : decode cX8_all 100 = .ok (.aload_n 0, 1) := by decide +kernel
theorem dX8_all_101 : decode cX8_all 101 = .ok (.getfield 16, 3) := by decide +kernel
theorem dX8_all_104 : decode cX8_all 104 = .ok (.invokevirtual 84, 3) := by decide +kernel
theorem dX8_all_107 : decode cX8_all 107 = .ok (.ireturn, 1) := by decide +kernel
theorem dX8_least_0 : decode cX8_least 0 = .ok (.iload_n 1, 1) := by decide +kernel
theorem dX8_least_1 : decode cX8_least 1 = .ok (.iload_n 2, 1) := by decide +kernel
theorem dX8_least_2 : decode cX8_least 2 = .ok (.invokestatic 195, 3) := by decide +kernel
theorem dX8_least_5 : decode cX8_least 5 = .ok (.ifCond .ne 6, 3) := by decide +kernel
theorem dX8_least_8 : decode cX8_least 8 = .ok (.bipush (-2), 2) := by decide +kernel
theorem dX8_least_10 : decode cX8_least 10 = .ok (.ireturn, 1) := by decide +kernel
theorem dX8_least_11 : decode cX8_least 11 = .ok (.iload_n 1, 1) := by decide +kernel
theorem dX8_least_12 : decode cX8_least 12 = .ok (.iload_n 2, 1) := by decide +kernel
theorem dX8_least_13 : decode cX8_least 13 = .ok (.aload_n 0, 1) := by decide +kernel
theorem dX8_least_14 : decode cX8_least 14 = .ok (.getfield 26, 3) := by decide +kernel
theorem dX8_least_17 : decode cX8_least 17 = .ok (.invokestatic 199, 3) := by decide +kernel
theorem dX8_least_20 : decode cX8_least 20 = .ok (.istore_n 3, 1) := by decide +kernel
theorem dX8_least_21 : decode cX8_least 21 = .ok (.lconst 0, 1) := by decide +kernel
theorem dX8_least_22 : decode cX8_least 22 = .ok (.lstore 4, 2) := by decide +kernel
theorem dX8_least_24 : decode cX8_least 24 = .ok (.iconst 0, 1) := by decide +kernel
theorem dX8_least_25 : decode cX8_least 25 = .ok (.istore 6, 2) := by decide +kernel
theorem dX8_least_27 : decode cX8_least 27 = .ok (.iload 6, 2) := by decide +kernel
theorem dX8_least_29 : decode cX8_least 29 = .ok (.iload_n 3, 1) := by decide +kernel
theorem dX8_least_30 : decode cX8_least 30 = .ok (.if_icmp .ge 30, 3) := by decide +kernel
theorem dX8_least_33 : decode cX8_least 33 = .ok (.lload 4, 2) := by decide +kernel
theorem dX8_least_35 : decode cX8_least 35 = .ok (.aload_n 0, 1) := by decide +kernel
theorem dX8_least_36 : decode cX8_least 36 = .ok (.getfield 26, 3) := by decide +kernel
theorem dX8_least_39 : decode cX8_least 39 = .ok (.iload 6, 2) := by decide +kernel
theorem dX8_least_41 : decode cX8_least 41 = .ok (.iaload, 1) := by decide +kernel
theorem dX8_least_42 : decode cX8_least 42 = .ok (.iload_n 2, 1) := by decide +kernel
theorem dX8_least_43 : decode cX8_least 43 = .ok (.iload 6, 2) := by decide +kernel
theorem dX8_least_45 : decode cX8_least 45 = .ok (.isub, 1) := by decide +kernel
theorem dX8_least_46 : decode cX8_least 46 = .ok (.iconst 1, 1) := by decide +kernel
theorem dX8_least_47 : decode cX8_least 47 = .ok (.isub, 1) := by decide +kernel
theorem dX8_least_48 : decode cX8_least 48 = .ok (.invokestatic 177, 3) := by decide +kernel
theorem dX8_least_51 : decode cX8_least 51 = .ok (.ladd, 1) := by decide +kernel
theorem dX8_least_52 : decode cX8_least 52 = .ok (.lstore 4, 2) := by decide +kernel
theorem dX8_least_54 : decode cX8_least 54 = .ok (.iinc 6 1, 3) := by decide +kernel
theorem dX8_least_57 : decode cX8_least 57 = .ok (.goto (-30), 3) := by decide +kernel
theorem dX8_least_60 : decode cX8_least 60 = .ok (.lload 4, 2) := by decide +kernel
theorem dX8_least_62 : decode cX8_least 62 = .ok (.l2i, 1) := by decide +kernel
theorem dX8_least_63 : decode cX8_least 63 = .ok (.ireturn, 1) := by decide +kernel
theorem dX8_cascade_0 : decode cX8_cascade 0 = .ok (.iload_n 1, 1) := by decide +kernel
theorem dX8_cascade_1 : decode cX8_cascade 1 = .ok (.iload_n 2, 1) := by decide +kernel
theorem dX8_cascade_2 : decode cX8_cascade 2 = .ok (.invokestatic 195, 3) := by decide +kernel
theorem dX8_cascade_5 : decode cX8_cascade 5 = .ok (.ifCond .eq 7, 3) := by decide +kernel
theorem dX8_cascade_8 : decode cX8_cascade 8 = .ok (.iload_n 3, 1) := by decide +kernel
theorem dX8_cascade_9 : decode cX8_cascade 9 = .ok (.ifCond .ge 6, 3) := by decide +kernel
theorem dX8_cascade_12 : decode cX8_cascade 12 = .ok (.bipush (-2), 2) := by decide +kernel
theorem dX8_cascade_14 : decode cX8_cascade 14 = .ok (.ireturn, 1) := by decide +kernel
theorem dX8_cascade_15 : decode cX8_cascade 15 = .ok (.iload_n 1, 1) := by decide +kernel
theorem dX8_cascade_16 : decode cX8_cascade 16 = .ok (.iload_n 2, 1) := by decide +kernel
theorem dX8_cascade_17 : decode cX8_cascade 17 = .ok (.aload_n 0, 1) := by decide +kernel
theorem dX8_cascade_18 : decode cX8_cascade 18 = .ok (.getfield 26, 3) := by decide +kernel
theorem dX8_cascade_21 : decode cX8_cascade 21 = .ok (.invokestatic 199, 3) := by decide +kernel
theorem dX8_cascade_24 : decode cX8_cascade 24 = .ok (.istore 4, 2) := by decide +kernel
theorem dX8_cascade_26 : decode cX8_cascade 26 = .ok (.iload_n 3, 1) := by decide +kernel
theorem dX8_cascade_27 : decode cX8_cascade 27 = .ok (.iload 4, 2) := by decide +kernel
theorem dX8_cascade_29 : decode cX8_cascade 29 = .ok (.if_icmp .ge 12, 3) := by decide +kernel
theorem dX8_cascade_32 : decode cX8_cascade 32 = .ok (.aload_n 0, 1) := by decide +kernel
theorem dX8_cascade_33 : decode cX8_cascade 33 = .ok (.getfield 26, 3) := by decide +kernel
theorem dX8_cascade_36 : decode cX8_cascade 36 = .ok (.iload_n 3, 1) := by decide +kernel
theorem dX8_cascade_37 : decode cX8_cascade 37 = .ok (.iaload, 1) := by decide +kernel
theorem dX8_cascade_38 : decode cX8_cascade 38 = .ok (.goto 4, 3) := by decide +kernel
theorem dX8_cascade_41 : decode cX8_cascade 41 = .ok (.iconst (-1), 1) := by decide +kernel
theorem dX8_cascade_42 : decode cX8_cascade 42 = .ok (.ireturn, 1) := by decide +kernel
theorem dX8_choose_0 : decode cX8_choose 0 = .ok (.iload_n 1, 1) := by decide +kernel
theorem dX8_choose_1 : decode cX8_choose 1 = .ok (.ifCond .lt 9, 3) := by decide +kernel
theorem dX8_choose_4 : decode cX8_choose 4 = .ok (.iload_n 1, 1) := by decide +kernel
theorem dX8_choose_5 : decode cX8_choose 5 = .ok (.bipush 20, 2) := by decide +kernel
theorem dX8_choose_7 : decode cX8_choose 7 = .ok (.if_icmp .le 6, 3) := by decide +kernel
theorem dX8_choose_10 : decode cX8_choose 10 = .ok (.bipush (-2), 2) := by decide +kernel
theorem dX8_choose_12 : decode cX8_choose 12 = .ok (.ireturn, 1) := by decide +kernel
theorem dX8_choose_13 : decode cX8_choose 13 = .ok (.iload_n 1, 1) := by decide +kernel
theorem dX8_choose_14 : decode cX8_choose 14 = .ok (.iload_n 2, 1) := by decide +kernel
theorem dX8_choose_15 : decode cX8_choose 15 = .ok (.invokestatic 177, 3) := by decide +kernel
theorem dX8_choose_18 : decode cX8_choose 18 = .ok (.l2i, 1) := by decide +kernel
theorem dX8_choose_19 : decode cX8_choose 19 = .ok (.ireturn, 1) := by decide +kernel
theorem dX8_most_0 : decode cX8_most 0 = .ok (.aload_n 0, 1) := by decide +kernel
theorem dX8_most_1 : decode cX8_most 1 = .ok (.iload_n 1, 1) := by decide +kernel
theorem dX8_most_2 : decode cX8_most 2 = .ok (.invokevirtual 102, 3) := by decide +kernel
theorem dX8_most_5 : decode cX8_most 5 = .ok (.astore 4, 2) := by decide +kernel
theorem dX8_most_7 : decode cX8_most 7 = .ok (.aload 4, 2) := by decide +kernel
theorem dX8_most_9 : decode cX8_most 9 = .ok (.ifnull 11, 3) := by decide +kernel
theorem dX8_most_12 : decode cX8_most 12 = .ok (.iload_n 2, 1) := by decide +kernel
theorem dX8_most_13 : decode cX8_most 13 = .ok (.iload_n 3, 1) := by decide +kernel
theorem dX8_most_14 : decode cX8_most 14 = .ok (.invokestatic 203, 3) := by decide +kernel
theorem dX8_most_17 : decode cX8_most 17 = .ok (.ifCond .ne 6, 3) := by decide +kernel
theorem dX8_most_20 : decode cX8_most 20 = .ok (.bipush (-2), 2) := by decide +kernel
theorem dX8_most_22 : decode cX8_most 22 = .ok (.ireturn, 1) := by decide +kernel
theorem dX8_most_23 : decode cX8_most 23 = .ok (.aload_n 0, 1) := by decide +kernel
theorem dX8_most_24 : decode cX8_most 24 = .ok (.getfield 54, 3) := by decide +kernel
theorem dX8_most_27 : decode cX8_most 27 = .ok (.aload 4, 2) := by decide +kernel
theorem dX8_most_29 : decode cX8_most 29 = .ok (.iload_n 2, 1) := by decide +kernel
theorem dX8_most_30 : decode cX8_most 30 = .ok (.iload_n 3, 1) := by decide +kernel
theorem dX8_most_31 : decode cX8_most 31 = .ok (.invokevirtual 206, 3) := by decide +kernel
theorem dX8_most_34 : decode cX8_most 34 = .ok (.ifCond .eq 13, 3) := by decide +kernel
theorem dX8_most_37 : decode cX8_most 37 = .ok (.aload_n 0, 1) := by decide +kernel
theorem dX8_most_38 : decode cX8_most 38 = .ok (.getfield 54, 3) := by decide +kernel
theorem dX8_most_41 : decode cX8_most 41 = .ok (.getfield 209, 3) := by decide +kernel
theorem dX8_most_44 : decode cX8_most 44 = .ok (.goto 5, 3) := by decide +kernel
theorem dX8_most_47 : decode cX8_most 47 = .ok (.bipush (-3), 2) := by decide +kernel
theorem dX8_most_49 : decode cX8_most 49 = .ok (.ireturn, 1) := by decide +kernel
theorem dX8_takes_0 : decode cX8_takes 0 = .ok (.aload_n 0, 1) := by decide +kernel
theorem dX8_takes_1 : decode cX8_takes 1 = .ok (.iload_n 1, 1) := by decide +kernel
theorem dX8_takes_2 : decode cX8_takes 2 = .ok (.invokevirtual 102, 3) := by decide +kernel
theorem dX8_takes_5 : decode cX8_takes 5 = .ok (.astore 5, 2) := by decide +kernel
theorem dX8_takes_7 : decode cX8_takes 7 = .ok (.aload 5, 2) := by decide +kernel
theorem dX8_takes_9 : decode cX8_takes 9 = .ok (.ifnull 19, 3) := by decide +kernel
theorem dX8_takes_12 : decode cX8_takes 12 = .ok (.iload_n 2, 1) := by decide +kernel
theorem dX8_takes_13 : decode cX8_takes 13 = .ok (.iload_n 3, 1) := by decide +kernel
theorem dX8_takes_14 : decode cX8_takes 14 = .ok (.invokestatic 203, 3) := by decide +kernel
theorem dX8_takes_17 : decode cX8_takes 17 = .ok (.ifCond .eq 11, 3) := by decide +kernel
theorem dX8_takes_20 : decode cX8_takes 20 = .ok (.iload 4, 2) := by decide +kernel
theorem dX8_takes_22 : decode cX8_takes 22 = .ok (.invokestatic 77, 3) := by decide +kernel
theorem dX8_takes_25 : decode cX8_takes 25 = .ok (.ifCond .ne 6, 3) := by decide +kernel
theorem dX8_takes_28 : decode cX8_takes 28 = .ok (.bipush (-2), 2) := by decide +kernel
theorem dX8_takes_30 : decode cX8_takes 30 = .ok (.ireturn, 1) := by decide +kernel
theorem dX8_takes_31 : decode cX8_takes 31 = .ok (.aload_n 0, 1) := by decide +kernel
theorem dX8_takes_32 : decode cX8_takes 32 = .ok (.getfield 54, 3) := by decide +kernel
theorem dX8_takes_35 : decode cX8_takes 35 = .ok (.aload 5, 2) := by decide +kernel
theorem dX8_takes_37 : decode cX8_takes 37 = .ok (.iload_n 2, 1) := by decide +kernel
theorem dX8_takes_38 : decode cX8_takes 38 = .ok (.iload_n 3, 1) := by decide +kernel
theorem dX8_takes_39 : decode cX8_takes 39 = .ok (.invokevirtual 206, 3) := by decide +kernel
theorem dX8_takes_42 : decode cX8_takes 42 = .ok (.ifCond .ne 6, 3) := by decide +kernel
theorem dX8_takes_45 : decode cX8_takes 45 = .ok (.bipush (-3), 2) := by decide +kernel
theorem dX8_takes_47 : decode cX8_takes 47 = .ok (.ireturn, 1) := by decide +kernel
theorem dX8_takes_48 : decode cX8_takes 48 = .ok (.aload_n 0, 1) := by decide +kernel
theorem dX8_takes_49 : decode cX8_takes 49 = .ok (.iload 4, 2) := by decide +kernel
theorem dX8_takes_51 : decode cX8_takes 51 = .ok (.aload_n 0, 1) := by decide +kernel
theorem dX8_takes_52 : decode cX8_takes 52 = .ok (.getfield 54, 3) := by decide +kernel
theorem dX8_takes_55 : decode cX8_takes 55 = .ok (.getfield 212, 3) := by decide +kernel
theorem dX8_takes_58 : decode cX8_takes 58 = .ok (.invokevirtual 84, 3) := by decide +kernel
theorem dX8_takes_61 : decode cX8_takes 61 = .ok (.pop, 1) := by decide +kernel
theorem dX8_takes_62 : decode cX8_takes 62 = .ok (.aload_n 0, 1) := by decide +kernel
theorem dX8_takes_63 : decode cX8_takes 63 = .ok (.getfield 54, 3) := by decide +kernel
theorem dX8_takes_66 : decode cX8_takes 66 = .ok (.getfield 215, 3) := by decide +kernel
theorem dX8_takes_69 : decode cX8_takes 69 = .ok (.ireturn, 1) := by decide +kernel
theorem dX8_cover_0 : decode cX8_cover 0 = .ok (.aload_n 0, 1) := by decide +kernel
theorem dX8_cover_1 : decode cX8_cover 1 = .ok (.iload_n 1, 1) := by decide +kernel
theorem dX8_cover_2 : decode cX8_cover 2 = .ok (.invokevirtual 102, 3) := by decide +kernel
theorem dX8_cover_5 : decode cX8_cover 5 = .ok (.astore_n 2, 1) := by decide +kernel
theorem dX8_cover_6 : decode cX8_cover 6 = .ok (.aload_n 2, 1) := by decide +kernel
theorem dX8_cover_7 : decode cX8_cover 7 = .ok (.ifnonnull 6, 3) := by decide +kernel
theorem dX8_cover_10 : decode cX8_cover 10 = .ok (.bipush (-2), 2) := by decide +kernel
theorem dX8_cover_12 : decode cX8_cover 12 = .ok (.ireturn, 1) := by decide +kernel
theorem dX8_cover_13 : decode cX8_cover 13 = .ok (.aload_n 0, 1) := by decide +kernel
theorem dX8_cover_14 : decode cX8_cover 14 = .ok (.getfield 16, 3) := by decide +kernel
theorem dX8_cover_17 : decode cX8_cover 17 = .ok (.aload_n 2, 1) := by decide +kernel
theorem dX8_cover_18 : decode cX8_cover 18 = .ok (.invokevirtual 218, 3) := by decide +kernel
theorem dX8_cover_21 : decode cX8_cover 21 = .ok (.aload_n 0, 1) := by decide +kernel
theorem dX8_cover_22 : decode cX8_cover 22 = .ok (.getfield 16, 3) := by decide +kernel
theorem dX8_cover_25 : decode cX8_cover 25 = .ok (.aload_n 0, 1) := by decide +kernel
theorem dX8_cover_26 : decode cX8_cover 26 = .ok (.getfield 16, 3) := by decide +kernel
theorem dX8_cover_29 : decode cX8_cover 29 = .ok (.invokevirtual 221, 3) := by decide +kernel
theorem dX8_cover_32 : decode cX8_cover 32 = .ok (.invokevirtual 224, 3) := by decide +kernel
theorem dX8_cover_35 : decode cX8_cover 35 = .ok (.ireturn, 1) := by decide +kernel
theorem dX8_colours_0 : decode cX8_colours 0 = .ok (.aload_n 0, 1) := by decide +kernel
theorem dX8_colours_1 : decode cX8_colours 1 = .ok (.iload_n 1, 1) := by decide +kernel
theorem dX8_colours_2 : decode cX8_colours 2 = .ok (.invokevirtual 102, 3) := by decide +kernel
theorem dX8_colours_5 : decode cX8_colours 5 = .ok (.astore_n 3, 1) := by decide +kernel
theorem dX8_colours_6 : decode cX8_colours 6 = .ok (.aload_n 3, 1) := by decide +kernel
theorem dX8_colours_7 : decode cX8_colours 7 = .ok (.ifnull 10, 3) := by decide +kernel
theorem dX8_colours_10 : decode cX8_colours 10 = .ok (.iload_n 2, 1) := by decide +kernel
theorem dX8_colours_11 : decode cX8_colours 11 = .ok (.invokestatic 227, 3) := by decide +kernel
theorem dX8_colours_14 : decode cX8_colours 14 = .ok (.ifCond .ne 6, 3) := by decide +kernel
theorem dX8_colours_17 : decode cX8_colours 17 = .ok (.bipush (-2), 2) := by decide +kernel
theorem dX8_colours_19 : decode cX8_colours 19 = .ok (.ireturn, 1) := by decide +kernel
theorem dX8_colours_20 : decode cX8_colours 20 = .ok (.aload_n 3, 1) := by decide +kernel
theorem dX8_colours_21 : decode cX8_colours 21 = .ok (.iconst 0, 1) := by decide +kernel
theorem dX8_colours_22 : decode cX8_colours 22 = .ok (.invokevirtual 120, 3) := by decide +kernel
theorem dX8_colours_25 : decode cX8_colours 25 = .ok (.ifCond .eq 6, 3) := by decide +kernel
theorem dX8_colours_28 : decode cX8_colours 28 = .ok (.bipush (-6), 2) := by decide +kernel
theorem dX8_colours_30 : decode cX8_colours 30 = .ok (.ireturn, 1) := by decide +kernel
theorem dX8_colours_31 : decode cX8_colours 31 = .ok (.aload_n 3, 1) := by decide +kernel
theorem dX8_colours_32 : decode cX8_colours 32 = .ok (.invokevirtual 230, 3) := by decide +kernel
theorem dX8_colours_35 : decode cX8_colours 35 = .ok (.ifCond .eq 5, 3) := by decide +kernel
theorem dX8_colours_38 : decode cX8_colours 38 = .ok (.iconst 0, 1) := by decide +kernel
theorem dX8_colours_39 : decode cX8_colours 39 = .ok (.ireturn, 1) := by decide +kernel
theorem dX8_colours_40 : decode cX8_colours 40 = .ok (.iconst 1, 1) := by decide +kernel
theorem dX8_colours_41 : decode cX8_colours 41 = .ok (.istore 4, 2) := by decide +kernel
theorem dX8_colours_43 : decode cX8_colours 43 = .ok (.iload 4, 2) := by decide +kernel
theorem dX8_colours_45 : decode cX8_colours 45 = .ok (.bipush 7, 2) := by decide +kernel
theorem dX8_colours_47 : decode cX8_colours 47 = .ok (.if_icmp .gt 41, 3) := by decide +kernel
theorem dX8_colours_50 : decode cX8_colours 50 = .ok (.aload_n 0, 1) := by decide +kernel
theorem dX8_colours_51 : decode cX8_colours 51 = .ok (.getfield 61, 3) := by decide +kernel
theorem dX8_colours_54 : decode cX8_colours 54 = .ok (.aload_n 3, 1) := by decide +kernel
theorem dX8_colours_55 : decode cX8_colours 55 = .ok (.iload 4, 2) := by decide +kernel
theorem dX8_colours_57 : decode cX8_colours 57 = .ok (.iload_n 2, 1) := by decide +kernel
theorem dX8_colours_58 : decode cX8_colours 58 = .ok (.invokevirtual 234, 3) := by decide +kernel
theorem dX8_colours_61 : decode cX8_colours 61 = .ok (.istore 5, 2) := by decide +kernel
theorem dX8_colours_63 : decode cX8_colours 63 = .ok (.iload 5, 2) := by decide +kernel
theorem dX8_colours_65 : decode cX8_colours 65 = .ok (.iconst 1, 1) := by decide +kernel
theorem dX8_colours_66 : decode cX8_colours 66 = .ok (.if_icmp .eq 16, 3) := by decide +kernel
theorem dX8_colours_69 : decode cX8_colours 69 = .ok (.iload 5, 2) := by decide +kernel
theorem dX8_colours_71 : decode cX8_colours 71 = .ok (.ifCond .ne 8, 3) := by decide +kernel
theorem dX8_colours_74 : decode cX8_colours 74 = .ok (.iload 4, 2) := by decide +kernel
theorem dX8_colours_76 : decode cX8_colours 76 = .ok (.goto 5, 3) := by decide +kernel
theorem dX8_colours_79 : decode cX8_colours 79 = .ok (.bipush (-3), 2) := by decide +kernel
theorem dX8_colours_81 : decode cX8_colours 81 = .ok (.ireturn, 1) := by decide +kernel
theorem dX8_colours_82 : decode cX8_colours 82 = .ok (.iinc 4 1, 3) := by decide +kernel
theorem dX8_colours_85 : decode cX8_colours 85 = .ok (.goto (-42), 3) := by decide +kernel
theorem dX8_colours_88 : decode cX8_colours 88 = .ok (.iconst (-1), 1) := by decide +kernel
theorem dX8_colours_89 : decode cX8_colours 89 = .ok (.ireturn, 1) := by decide +kernel
theorem dX8_colour_0 : decode cX8_colour 0 = .ok (.aload_n 0, 1) := by decide +kernel
theorem dX8_colour_1 : decode cX8_colour 1 = .ok (.iload_n 1, 1) := by decide +kernel
theorem dX8_colour_2 : decode cX8_colour 2 = .ok (.invokevirtual 102, 3) := by decide +kernel
theorem dX8_colour_5 : decode cX8_colour 5 = .ok (.astore 5, 2) := by decide +kernel
theorem dX8_colour_7 : decode cX8_colour 7 = .ok (.aload 5, 2) := by decide +kernel
theorem dX8_colour_9 : decode cX8_colour 9 = .ok (.ifnull 26, 3) := by decide +kernel
theorem dX8_colour_12 : decode cX8_colour 12 = .ok (.iload_n 2, 1) := by decide +kernel
theorem dX8_colour_13 : decode cX8_colour 13 = .ok (.iconst 1, 1) := by decide +kernel
theorem dX8_colour_14 : decode cX8_colour 14 = .ok (.if_icmp .lt 21, 3) := by decide +kernel
theorem dX8_colour_17 : decode cX8_colour 17 = .ok (.iload_n 2, 1) := by decide +kernel
theorem dX8_colour_18 : decode cX8_colour 18 = .ok (.bipush 7, 2) := by decide +kernel
theorem dX8_colour_20 : decode cX8_colour 20 = .ok (.if_icmp .gt 15, 3) := by decide +kernel
theorem dX8_colour_23 : decode cX8_colour 23 = .ok (.iload_n 3, 1) := by decide +kernel
theorem dX8_colour_24 : decode cX8_colour 24 = .ok (.invokestatic 227, 3) := by decide +kernel
theorem dX8_colour_27 : decode cX8_colour 27 = .ok (.ifCond .eq 8, 3) := by decide +kernel
theorem dX8_colour_30 : decode cX8_colour 30 = .ok (.iload 4, 2) := by decide +kernel
theorem dX8_colour_32 : decode cX8_colour 32 = .ok (.ifCond .ge 6, 3) := by decide +kernel
theorem dX8_colour_35 : decode cX8_colour 35 = .ok (.bipush (-2), 2) := by decide +kernel
theorem dX8_colour_37 : decode cX8_colour 37 = .ok (.ireturn, 1) := by decide +kernel
theorem dX8_colour_38 : decode cX8_colour 38 = .ok (.aload 5, 2) := by decide +kernel
theorem dX8_colour_40 : decode cX8_colour 40 = .ok (.iconst 0, 1) := by decide +kernel
theorem dX8_colour_41 : decode cX8_colour 41 = .ok (.invokevirtual 120, 3) := by decide +kernel
theorem dX8_colour_44 : decode cX8_colour 44 = .ok (.ifCond .eq 6, 3) := by decide +kernel
theorem dX8_colour_47 : decode cX8_colour 47 = .ok (.bipush (-6), 2) := by decide +kernel
theorem dX8_colour_49 : decode cX8_colour 49 = .ok (.ireturn, 1) := by decide +kernel
theorem dX8_colour_50 : decode cX8_colour 50 = .ok (.iload 4, 2) := by decide +kernel
theorem dX8_colour_52 : decode cX8_colour 52 = .ok (.aload 5, 2) := by decide +kernel
theorem dX8_colour_54 : decode cX8_colour 54 = .ok (.invokevirtual 236, 3) := by decide +kernel
theorem dX8_colour_57 : decode cX8_colour 57 = .ok (.if_icmp .lt 5, 3) := by decide +kernel
theorem dX8_colour_60 : decode cX8_colour 60 = .ok (.iconst (-1), 1) := by decide +kernel
theorem dX8_colour_61 : decode cX8_colour 61 = .ok (.ireturn, 1) := by decide +kernel
theorem dX8_colour_62 : decode cX8_colour 62 = .ok (.aload_n 0, 1) := by decide +kernel
theorem dX8_colour_63 : decode cX8_colour 63 = .ok (.getfield 61, 3) := by decide +kernel
theorem dX8_colour_66 : decode cX8_colour 66 = .ok (.aload 5, 2) := by decide +kernel
theorem dX8_colour_68 : decode cX8_colour 68 = .ok (.iload_n 2, 1) := by decide +kernel
theorem dX8_colour_69 : decode cX8_colour 69 = .ok (.iload_n 3, 1) := by decide +kernel
theorem dX8_colour_70 : decode cX8_colour 70 = .ok (.invokevirtual 234, 3) := by decide +kernel
theorem dX8_colour_73 : decode cX8_colour 73 = .ok (.istore 6, 2) := by decide +kernel
theorem dX8_colour_75 : decode cX8_colour 75 = .ok (.iload 6, 2) := by decide +kernel
theorem dX8_colour_77 : decode cX8_colour 77 = .ok (.iconst 2, 1) := by decide +kernel
theorem dX8_colour_78 : decode cX8_colour 78 = .ok (.if_icmp .ne 6, 3) := by decide +kernel
theorem dX8_colour_81 : decode cX8_colour 81 = .ok (.bipush (-3), 2) := by decide +kernel
theorem dX8_colour_83 : decode cX8_colour 83 = .ok (.ireturn, 1) := by decide +kernel
theorem dX8_colour_84 : decode cX8_colour 84 = .ok (.iload 6, 2) := by decide +kernel
theorem dX8_colour_86 : decode cX8_colour 86 = .ok (.ifCond .ne 15, 3) := by decide +kernel
theorem dX8_colour_89 : decode cX8_colour 89 = .ok (.aload_n 0, 1) := by decide +kernel
theorem dX8_colour_90 : decode cX8_colour 90 = .ok (.getfield 61, 3) := by decide +kernel
theorem dX8_colour_93 : decode cX8_colour 93 = .ok (.iload 4, 2) := by decide +kernel
theorem dX8_colour_95 : decode cX8_colour 95 = .ok (.invokevirtual 238, 3) := by decide +kernel
theorem dX8_colour_98 : decode cX8_colour 98 = .ok (.goto 4, 3) := by decide +kernel
theorem dX8_colour_101 : decode cX8_colour 101 = .ok (.iconst (-1), 1) := by decide +kernel
theorem dX8_colour_102 : decode cX8_colour 102 = .ok (.ireturn, 1) := by decide +kernel
theorem dX8_steps_0 : decode cX8_steps 0 = .ok (.aload_n 0, 1) := by decide +kernel
theorem dX8_steps_1 : decode cX8_steps 1 = .ok (.iload_n 1, 1) := by decide +kernel
theorem dX8_steps_2 : decode cX8_steps 2 = .ok (.invokevirtual 102, 3) := by decide +kernel
theorem dX8_steps_5 : decode cX8_steps 5 = .ok (.astore 4, 2) := by decide +kernel
theorem dX8_steps_7 : decode cX8_steps 7 = .ok (.aload 4, 2) := by decide +kernel
theorem dX8_steps_9 : decode cX8_steps 9 = .ok (.ifnull 21, 3) := by decide +kernel
theorem dX8_steps_12 : decode cX8_steps 12 = .ok (.aload 4, 2) := by decide +kernel
theorem dX8_steps_14 : decode cX8_steps 14 = .ok (.iload_n 2, 1) := by decide +kernel
theorem dX8_steps_15 : decode cX8_steps 15 = .ok (.invokevirtual 117, 3) := by decide +kernel
theorem dX8_steps_18 : decode cX8_steps 18 = .ok (.ifCond .eq 12, 3) := by decide +kernel
theorem dX8_steps_21 : decode cX8_steps 21 = .ok (.aload 4, 2) := by decide +kernel
theorem dX8_steps_23 : decode cX8_steps 23 = .ok (.iload_n 3, 1) := by decide +kernel
theorem dX8_steps_24 : decode cX8_steps 24 = .ok (.invokevirtual 117, 3) := by decide +kernel
theorem dX8_steps_27 : decode cX8_steps 27 = .ok (.ifCond .ne 6, 3) := by decide +kernel
theorem dX8_steps_30 : decode cX8_steps 30 = .ok (.bipush (-2), 2) := by decide +kernel
theorem dX8_steps_32 : decode cX8_steps 32 = .ok (.ireturn, 1) := by decide +kernel
theorem dX8_steps_33 : decode cX8_steps 33 = .ok (.aload 4, 2) := by decide +kernel
theorem dX8_steps_35 : decode cX8_steps 35 = .ok (.iload_n 2, 1) := by decide +kernel
theorem dX8_steps_36 : decode cX8_steps 36 = .ok (.invokevirtual 120, 3) := by decide +kernel
theorem dX8_steps_39 : decode cX8_steps 39 = .ok (.ifCond .eq 12, 3) := by decide +kernel
theorem dX8_steps_42 : decode cX8_steps 42 = .ok (.aload 4, 2) := by decide +kernel
theorem dX8_steps_44 : decode cX8_steps 44 = .ok (.iload_n 3, 1) := by decide +kernel
theorem dX8_steps_45 : decode cX8_steps 45 = .ok (.invokevirtual 120, 3) := by decide +kernel
theorem dX8_steps_48 : decode cX8_steps 48 = .ok (.ifCond .ne 6, 3) := by decide +kernel
theorem dX8_steps_51 : decode cX8_steps 51 = .ok (.bipush (-6), 2) := by decide +kernel
theorem dX8_steps_53 : decode cX8_steps 53 = .ok (.ireturn, 1) := by decide +kernel
theorem dX8_steps_54 : decode cX8_steps 54 = .ok (.aload_n 0, 1) := by decide +kernel
theorem dX8_steps_55 : decode cX8_steps 55 = .ok (.aload 4, 2) := by decide +kernel
theorem dX8_steps_57 : decode cX8_steps 57 = .ok (.iload_n 2, 1) := by decide +kernel
theorem dX8_steps_58 : decode cX8_steps 58 = .ok (.iload_n 3, 1) := by decide +kernel
theorem dX8_steps_59 : decode cX8_steps 59 = .ok (.invokevirtual 241, 3) := by decide +kernel
theorem dX8_steps_62 : decode cX8_steps 62 = .ok (.ireturn, 1) := by decide +kernel
theorem dX8_arcs_0 : decode cX8_arcs 0 = .ok (.aload_n 0, 1) := by decide +kernel
theorem dX8_arcs_1 : decode cX8_arcs 1 = .ok (.iload_n 1, 1) := by decide +kernel
theorem dX8_arcs_2 : decode cX8_arcs 2 = .ok (.invokevirtual 102, 3) := by decide +kernel
theorem dX8_arcs_5 : decode cX8_arcs 5 = .ok (.astore_n 3, 1) := by decide +kernel
theorem dX8_arcs_6 : decode cX8_arcs 6 = .ok (.aload_n 3, 1) := by decide +kernel
theorem dX8_arcs_7 : decode cX8_arcs 7 = .ok (.ifnull 14, 3) := by decide +kernel
theorem dX8_arcs_10 : decode cX8_arcs 10 = .ok (.aload_n 3, 1) := by decide +kernel
theorem dX8_arcs_11 : decode cX8_arcs 11 = .ok (.getfield 133, 3) := by decide +kernel
theorem dX8_arcs_14 : decode cX8_arcs 14 = .ok (.iload_n 2, 1) := by decide +kernel
theorem dX8_arcs_15 : decode cX8_arcs 15 = .ok (.invokestatic 244, 3) := by decide +kernel
theorem dX8_arcs_18 : decode cX8_arcs 18 = .ok (.ifCond .ne 6, 3) := by decide +kernel
theorem dX8_arcs_21 : decode cX8_arcs 21 = .ok (.bipush (-2), 2) := by decide +kernel
theorem dX8_arcs_23 : decode cX8_arcs 23 = .ok (.ireturn, 1) := by decide +kernel
theorem dX8_arcs_24 : decode cX8_arcs 24 = .ok (.aload_n 3, 1) := by decide +kernel
theorem dX8_arcs_25 : decode cX8_arcs 25 = .ok (.getfield 133, 3) := by decide +kernel
theorem dX8_arcs_28 : decode cX8_arcs 28 = .ok (.iload_n 2, 1) := by decide +kernel
theorem dX8_arcs_29 : decode cX8_arcs 29 = .ok (.aload_n 0, 1) := by decide +kernel
theorem dX8_arcs_30 : decode cX8_arcs 30 = .ok (.getfield 26, 3) := by decide +kernel
theorem dX8_arcs_33 : decode cX8_arcs 33 = .ok (.invokestatic 249, 3) := by decide +kernel
theorem dX8_arcs_36 : decode cX8_arcs 36 = .ok (.aload_n 0, 1) := by decide +kernel
theorem dX8_arcs_37 : decode cX8_arcs 37 = .ok (.aload_n 3, 1) := by decide +kernel
theorem dX8_arcs_38 : decode cX8_arcs 38 = .ok (.invokevirtual 253, 3) := by decide +kernel
theorem dX8_arcs_41 : decode cX8_arcs 41 = .ok (.ireturn, 1) := by decide +kernel
theorem dX8_around_0 : decode cX8_around 0 = .ok (.iload_n 1, 1) := by decide +kernel
theorem dX8_around_1 : decode cX8_around 1 = .ok (.invokestatic 174, 3) := by decide +kernel
theorem dX8_around_4 : decode cX8_around 4 = .ok (.ifCond .eq 20, 3) := by decide +kernel
theorem dX8_around_7 : decode cX8_around 7 = .ok (.iload_n 1, 1) := by decide +kernel
theorem dX8_around_8 : decode cX8_around 8 = .ok (.iload_n 2, 1) := by decide +kernel
theorem dX8_around_9 : decode cX8_around 9 = .ok (.invokestatic 244, 3) := by decide +kernel
theorem dX8_around_12 : decode cX8_around 12 = .ok (.ifCond .eq 12, 3) := by decide +kernel
theorem dX8_around_15 : decode cX8_around 15 = .ok (.iload_n 3, 1) := by decide +kernel
theorem dX8_around_16 : decode cX8_around 16 = .ok (.ifCond .lt 8, 3) := by decide +kernel
theorem dX8_around_19 : decode cX8_around 19 = .ok (.iload_n 3, 1) := by decide +kernel
theorem dX8_around_20 : decode cX8_around 20 = .ok (.iload_n 1, 1) := by decide +kernel
theorem dX8_around_21 : decode cX8_around 21 = .ok (.if_icmp .lt 6, 3) := by decide +kernel
theorem dX8_around_24 : decode cX8_around 24 = .ok (.bipush (-2), 2) := by decide +kernel
theorem dX8_around_26 : decode cX8_around 26 = .ok (.ireturn, 1) := by decide +kernel
theorem dX8_around_27 : decode cX8_around 27 = .ok (.iload_n 1, 1) := by decide +kernel
theorem dX8_around_28 : decode cX8_around 28 = .ok (.iload_n 2, 1) := by decide +kernel
theorem dX8_around_29 : decode cX8_around 29 = .ok (.aload_n 0, 1) := by decide +kernel
theorem dX8_around_30 : decode cX8_around 30 = .ok (.getfield 26, 3) := by decide +kernel
theorem dX8_around_33 : decode cX8_around 33 = .ok (.invokestatic 249, 3) := by decide +kernel
theorem dX8_around_36 : decode cX8_around 36 = .ok (.aload_n 0, 1) := by decide +kernel
theorem dX8_around_37 : decode cX8_around 37 = .ok (.getfield 26, 3) := by decide +kernel
theorem dX8_around_40 : decode cX8_around 40 = .ok (.iload_n 3, 1) := by decide +kernel
theorem dX8_around_41 : decode cX8_around 41 = .ok (.iaload, 1) := by decide +kernel
theorem dX8_around_42 : decode cX8_around 42 = .ok (.ireturn, 1) := by decide +kernel
theorem dX8_rounds_0 : decode cX8_rounds 0 = .ok (.iload_n 1, 1) := by decide +kernel
theorem dX8_rounds_1 : decode cX8_rounds 1 = .ok (.invokestatic 174, 3) := by decide +kernel
theorem dX8_rounds_4 : decode cX8_rounds 4 = .ok (.ifCond .eq 14, 3) := by decide +kernel
theorem dX8_rounds_7 : decode cX8_rounds 7 = .ok (.iload_n 2, 1) := by decide +kernel
theorem dX8_rounds_8 : decode cX8_rounds 8 = .ok (.ifCond .lt 10, 3) := by decide +kernel
theorem dX8_rounds_11 : decode cX8_rounds 11 = .ok (.iload_n 2, 1) := by decide +kernel
theorem dX8_rounds_12 : decode cX8_rounds 12 = .ok (.iconst 1, 1) := by decide +kernel
theorem dX8_rounds_13 : decode cX8_rounds 13 = .ok (.iload_n 1, 1) := by decide +kernel
theorem dX8_rounds_14 : decode cX8_rounds 14 = .ok (.ishl, 1) := by decide +kernel
theorem dX8_rounds_15 : decode cX8_rounds 15 = .ok (.if_icmp .lt 6, 3) := by decide +kernel
theorem dX8_rounds_18 : decode cX8_rounds 18 = .ok (.bipush (-2), 2) := by decide +kernel
theorem dX8_rounds_20 : decode cX8_rounds 20 = .ok (.ireturn, 1) := by decide +kernel
theorem dX8_rounds_21 : decode cX8_rounds 21 = .ok (.iload_n 1, 1) := by decide +kernel
theorem dX8_rounds_22 : decode cX8_rounds 22 = .ok (.iload_n 2, 1) := by decide +kernel
theorem dX8_rounds_23 : decode cX8_rounds 23 = .ok (.invokestatic 190, 3) := by decide +kernel
theorem dX8_rounds_26 : decode cX8_rounds 26 = .ok (.invokestatic 256, 3) := by decide +kernel
theorem dX8_rounds_29 : decode cX8_rounds 29 = .ok (.ireturn, 1) := by decide +kernel
theorem dX8_sum_0 : decode cX8_sum 0 = .ok (.aload_n 0, 1) := by decide +kernel
theorem dX8_sum_1 : decode cX8_sum 1 = .ok (.iload_n 1, 1) := by decide +kernel
theorem dX8_sum_2 : decode cX8_sum 2 = .ok (.invokevirtual 102, 3) := by decide +kernel
theorem dX8_sum_5 : decode cX8_sum 5 = .ok (.astore_n 3, 1) := by decide +kernel
theorem dX8_sum_6 : decode cX8_sum 6 = .ok (.aload_n 3, 1) := by decide +kernel
theorem dX8_sum_7 : decode cX8_sum 7 = .ok (.ifnull 12, 3) := by decide +kernel
theorem dX8_sum_10 : decode cX8_sum 10 = .ok (.iload_n 2, 1) := by decide +kernel
theorem dX8_sum_11 : decode cX8_sum 11 = .ok (.ifCond .lt 8, 3) := by decide +kernel
theorem dX8_sum_14 : decode cX8_sum 14 = .ok (.iload_n 2, 1) := by decide +kernel
theorem dX8_sum_15 : decode cX8_sum 15 = .ok (.iconst 1, 1) := by decide +kernel
theorem dX8_sum_16 : decode cX8_sum 16 = .ok (.if_icmp .le 6, 3) := by decide +kernel
theorem dX8_sum_19 : decode cX8_sum 19 = .ok (.bipush (-2), 2) := by decide +kernel
theorem dX8_sum_21 : decode cX8_sum 21 = .ok (.ireturn, 1) := by decide +kernel
theorem dX8_sum_22 : decode cX8_sum 22 = .ok (.lconst 0, 1) := by decide +kernel
theorem dX8_sum_23 : decode cX8_sum 23 = .ok (.lstore 4, 2) := by decide +kernel
theorem dX8_sum_25 : decode cX8_sum 25 = .ok (.lconst 1, 1) := by decide +kernel
theorem dX8_sum_26 : decode cX8_sum 26 = .ok (.lstore 6, 2) := by decide +kernel
theorem dX8_sum_28 : decode cX8_sum 28 = .ok (.iconst 0, 1) := by decide +kernel
theorem dX8_sum_29 : decode cX8_sum 29 = .ok (.istore 8, 2) := by decide +kernel
theorem dX8_sum_31 : decode cX8_sum 31 = .ok (.iload 8, 2) := by decide +kernel
theorem dX8_sum_33 : decode cX8_sum 33 = .ok (.aload_n 3, 1) := by decide +kernel
theorem dX8_sum_34 : decode cX8_sum 34 = .ok (.getfield 133, 3) := by decide +kernel
theorem dX8_sum_37 : decode cX8_sum 37 = .ok (.if_icmp .gt 72, 3) := by decide +kernel
theorem dX8_sum_40 : decode cX8_sum 40 = .ok (.aload_n 3, 1) := by decide +kernel
theorem dX8_sum_41 : decode cX8_sum 41 = .ok (.getfield 133, 3) := by decide +kernel
theorem dX8_sum_44 : decode cX8_sum 44 = .ok (.iload 8, 2) := by decide +kernel
theorem dX8_sum_46 : decode cX8_sum 46 = .ok (.invokestatic 177, 3) := by decide +kernel
theorem dX8_sum_49 : decode cX8_sum 49 = .ok (.lstore 9, 2) := by decide +kernel
theorem dX8_sum_51 : decode cX8_sum 51 = .ok (.lload 4, 2) := by decide +kernel
theorem dX8_sum_53 : decode cX8_sum 53 = .ok (.lload 9, 2) := by decide +kernel
theorem dX8_sum_55 : decode cX8_sum 55 = .ok (.lmul, 1) := by decide +kernel
theorem dX8_sum_56 : decode cX8_sum 56 = .ok (.lload 6, 2) := by decide +kernel
theorem dX8_sum_58 : decode cX8_sum 58 = .ok (.aload_n 3, 1) := by decide +kernel
theorem dX8_sum_59 : decode cX8_sum 59 = .ok (.iload 8, 2) := by decide +kernel
theorem dX8_sum_61 : decode cX8_sum 61 = .ok (.invokevirtual 139, 3) := by decide +kernel
theorem dX8_sum_64 : decode cX8_sum 64 = .ok (.i2l, 1) := by decide +kernel
theorem dX8_sum_65 : decode cX8_sum 65 = .ok (.lmul, 1) := by decide +kernel
theorem dX8_sum_66 : decode cX8_sum 66 = .ok (.ladd, 1) := by decide +kernel
theorem dX8_sum_67 : decode cX8_sum 67 = .ok (.lstore 4, 2) := by decide +kernel
theorem dX8_sum_69 : decode cX8_sum 69 = .ok (.lload 6, 2) := by decide +kernel
theorem dX8_sum_71 : decode cX8_sum 71 = .ok (.lload 9, 2) := by decide +kernel
theorem dX8_sum_73 : decode cX8_sum 73 = .ok (.lmul, 1) := by decide +kernel
theorem dX8_sum_74 : decode cX8_sum 74 = .ok (.lstore 6, 2) := by decide +kernel
theorem dX8_sum_76 : decode cX8_sum 76 = .ok (.lload 4, 2) := by decide +kernel
theorem dX8_sum_78 : decode cX8_sum 78 = .ok (.lload 6, 2) := by decide +kernel
theorem dX8_sum_80 : decode cX8_sum 80 = .ok (.invokestatic 260, 3) := by decide +kernel
theorem dX8_sum_83 : decode cX8_sum 83 = .ok (.lstore 11, 2) := by decide +kernel
theorem dX8_sum_85 : decode cX8_sum 85 = .ok (.lload 4, 2) := by decide +kernel
theorem dX8_sum_87 : decode cX8_sum 87 = .ok (.lload 11, 2) := by decide +kernel
theorem dX8_sum_89 : decode cX8_sum 89 = .ok (.invokestatic 264, 3) := by decide +kernel
theorem dX8_sum_92 : decode cX8_sum 92 = .ok (.lstore 4, 2) := by decide +kernel
theorem dX8_sum_94 : decode cX8_sum 94 = .ok (.lload 6, 2) := by decide +kernel
theorem dX8_sum_96 : decode cX8_sum 96 = .ok (.lload 11, 2) := by decide +kernel
theorem dX8_sum_98 : decode cX8_sum 98 = .ok (.invokestatic 264, 3) := by decide +kernel
theorem dX8_sum_101 : decode cX8_sum 101 = .ok (.lstore 6, 2) := by decide +kernel
theorem dX8_sum_103 : decode cX8_sum 103 = .ok (.iinc 8 1, 3) := by decide +kernel
theorem dX8_sum_106 : decode cX8_sum 106 = .ok (.goto (-75), 3) := by decide +kernel
theorem dX8_sum_109 : decode cX8_sum 109 = .ok (.iload_n 2, 1) := by decide +kernel
theorem dX8_sum_110 : decode cX8_sum 110 = .ok (.ifCond .ne 8, 3) := by decide +kernel
theorem dX8_sum_113 : decode cX8_sum 113 = .ok (.lload 4, 2) := by decide +kernel
theorem dX8_sum_115 : decode cX8_sum 115 = .ok (.goto 5, 3) := by decide +kernel
theorem dX8_sum_118 : decode cX8_sum 118 = .ok (.lload 6, 2) := by decide +kernel
theorem dX8_sum_120 : decode cX8_sum 120 = .ok (.l2i, 1) := by decide +kernel
theorem dX8_sum_121 : decode cX8_sum 121 = .ok (.ireturn, 1) := by decide +kernel
theorem dX8_shattered_0 : decode cX8_shattered 0 = .ok (.aload_n 0, 1) := by decide +kernel
theorem dX8_shattered_1 : decode cX8_shattered 1 = .ok (.iload_n 1, 1) := by decide +kernel
theorem dX8_shattered_2 : decode cX8_shattered 2 = .ok (.invokevirtual 102, 3) := by decide +kernel
theorem dX8_shattered_5 : decode cX8_shattered 5 = .ok (.astore_n 3, 1) := by decide +kernel
theorem dX8_shattered_6 : decode cX8_shattered 6 = .ok (.aload_n 3, 1) := by decide +kernel
theorem dX8_shattered_7 : decode cX8_shattered 7 = .ok (.ifnull 11, 3) := by decide +kernel
theorem dX8_shattered_10 : decode cX8_shattered 10 = .ok (.aload_n 3, 1) := by decide +kernel
theorem dX8_shattered_11 : decode cX8_shattered 11 = .ok (.iload_n 2, 1) := by decide +kernel
theorem dX8_shattered_12 : decode cX8_shattered 12 = .ok (.invokevirtual 117, 3) := by decide +kernel
theorem dX8_shattered_15 : decode cX8_shattered 15 = .ok (.ifCond .ne 6, 3) := by decide +kernel
theorem dX8_shattered_18 : decode cX8_shattered 18 = .ok (.bipush (-2), 2) := by decide +kernel
theorem dX8_shattered_20 : decode cX8_shattered 20 = .ok (.ireturn, 1) := by decide +kernel
theorem dX8_shattered_21 : decode cX8_shattered 21 = .ok (.aload_n 0, 1) := by decide +kernel
theorem dX8_shattered_22 : decode cX8_shattered 22 = .ok (.aload_n 3, 1) := by decide +kernel
theorem dX8_shattered_23 : decode cX8_shattered 23 = .ok (.iload_n 2, 1) := by decide +kernel
theorem dX8_shattered_24 : decode cX8_shattered 24 = .ok (.invokevirtual 267, 3) := by decide +kernel
theorem dX8_shattered_27 : decode cX8_shattered 27 = .ok (.ifCond .eq 7, 3) := by decide +kernel
theorem dX8_shattered_30 : decode cX8_shattered 30 = .ok (.iconst 1, 1) := by decide +kernel
theorem dX8_shattered_31 : decode cX8_shattered 31 = .ok (.goto 4, 3) := by decide +kernel
theorem dX8_shattered_34 : decode cX8_shattered 34 = .ok (.iconst 0, 1) := by decide +kernel
theorem dX8_shattered_35 : decode cX8_shattered 35 = .ok (.ireturn, 1) := by decide +kernel
theorem dX8_shatters_0 : decode cX8_shatters 0 = .ok (.aload_n 0, 1) := by decide +kernel
theorem dX8_shatters_1 : decode cX8_shatters 1 = .ok (.iload_n 1, 1) := by decide +kernel
theorem dX8_shatters_2 : decode cX8_shatters 2 = .ok (.invokevirtual 102, 3) := by decide +kernel
theorem dX8_shatters_5 : decode cX8_shatters 5 = .ok (.astore_n 3, 1) := by decide +kernel
theorem dX8_shatters_6 : decode cX8_shatters 6 = .ok (.aload_n 3, 1) := by decide +kernel
theorem dX8_shatters_7 : decode cX8_shatters 7 = .ok (.ifnull 12, 3) := by decide +kernel
theorem dX8_shatters_10 : decode cX8_shatters 10 = .ok (.iload_n 2, 1) := by decide +kernel
theorem dX8_shatters_11 : decode cX8_shatters 11 = .ok (.ifCond .lt 8, 3) := by decide +kernel
theorem dX8_shatters_14 : decode cX8_shatters 14 = .ok (.iload_n 2, 1) := by decide +kernel
theorem dX8_shatters_15 : decode cX8_shatters 15 = .ok (.iconst 1, 1) := by decide +kernel
theorem dX8_shatters_16 : decode cX8_shatters 16 = .ok (.if_icmp .le 6, 3) := by decide +kernel
theorem dX8_shatters_19 : decode cX8_shatters 19 = .ok (.bipush (-2), 2) := by decide +kernel
theorem dX8_shatters_21 : decode cX8_shatters 21 = .ok (.ireturn, 1) := by decide +kernel
theorem dX8_shatters_22 : decode cX8_shatters 22 = .ok (.aload_n 0, 1) := by decide +kernel
theorem dX8_shatters_23 : decode cX8_shatters 23 = .ok (.getfield 20, 3) := by decide +kernel
theorem dX8_shatters_26 : decode cX8_shatters 26 = .ok (.aload_n 3, 1) := by decide +kernel
theorem dX8_shatters_27 : decode cX8_shatters 27 = .ok (.getfield 133, 3) := by decide +kernel
theorem dX8_shatters_30 : decode cX8_shatters 30 = .ok (.invokevirtual 146, 3) := by decide +kernel
theorem dX8_shatters_33 : decode cX8_shatters 33 = .ok (.iconst 0, 1) := by decide +kernel
theorem dX8_shatters_34 : decode cX8_shatters 34 = .ok (.istore 4, 2) := by decide +kernel
theorem dX8_shatters_36 : decode cX8_shatters 36 = .ok (.iload 4, 2) := by decide +kernel
theorem dX8_shatters_38 : decode cX8_shatters 38 = .ok (.aload_n 3, 1) := by decide +kernel
theorem dX8_shatters_39 : decode cX8_shatters 39 = .ok (.invokevirtual 270, 3) := by decide +kernel
theorem dX8_shatters_42 : decode cX8_shatters 42 = .ok (.if_icmp .ge 28, 3) := by decide +kernel
theorem dX8_shatters_45 : decode cX8_shatters 45 = .ok (.aload_n 0, 1) := by decide +kernel
theorem dX8_shatters_46 : decode cX8_shatters 46 = .ok (.aload_n 3, 1) := by decide +kernel
theorem dX8_shatters_47 : decode cX8_shatters 47 = .ok (.iload 4, 2) := by decide +kernel
theorem dX8_shatters_49 : decode cX8_shatters 49 = .ok (.invokevirtual 267, 3) := by decide +kernel
theorem dX8_shatters_52 : decode cX8_shatters 52 = .ok (.ifCond .eq 12, 3) := by decide +kernel
theorem dX8_shatters_55 : decode cX8_shatters 55 = .ok (.aload_n 0, 1) := by decide +kernel
theorem dX8_shatters_56 : decode cX8_shatters 56 = .ok (.getfield 20, 3) := by decide +kernel
theorem dX8_shatters_59 : decode cX8_shatters 59 = .ok (.iload 4, 2) := by decide +kernel
theorem dX8_shatters_61 : decode cX8_shatters 61 = .ok (.invokevirtual 187, 3) := by decide +kernel
theorem dX8_shatters_64 : decode cX8_shatters 64 = .ok (.iinc 4 1, 3) := by decide +kernel
theorem dX8_shatters_67 : decode cX8_shatters 67 = .ok (.goto (-31), 3) := by decide +kernel
theorem dX8_shatters_70 : decode cX8_shatters 70 = .ok (.iload_n 2, 1) := by decide +kernel
theorem dX8_shatters_71 : decode cX8_shatters 71 = .ok (.ifCond .ne 13, 3) := by decide +kernel
theorem dX8_shatters_74 : decode cX8_shatters 74 = .ok (.aload_n 0, 1) := by decide +kernel
theorem dX8_shatters_75 : decode cX8_shatters 75 = .ok (.getfield 20, 3) := by decide +kernel
theorem dX8_shatters_78 : decode cX8_shatters 78 = .ok (.invokevirtual 236, 3) := by decide +kernel
theorem dX8_shatters_81 : decode cX8_shatters 81 = .ok (.goto 10, 3) := by decide +kernel
theorem dX8_shatters_84 : decode cX8_shatters 84 = .ok (.aload_n 0, 1) := by decide +kernel
theorem dX8_shatters_85 : decode cX8_shatters 85 = .ok (.getfield 20, 3) := by decide +kernel
theorem dX8_shatters_88 : decode cX8_shatters 88 = .ok (.invokevirtual 273, 3) := by decide +kernel
theorem dX8_shatters_91 : decode cX8_shatters 91 = .ok (.ireturn, 1) := by decide +kernel
theorem dX8_flower_0 : decode cX8_flower 0 = .ok (.aload_n 0, 1) := by decide +kernel
theorem dX8_flower_1 : decode cX8_flower 1 = .ok (.iload_n 1, 1) := by decide +kernel
theorem dX8_flower_2 : decode cX8_flower 2 = .ok (.invokevirtual 102, 3) := by decide +kernel
theorem dX8_flower_5 : decode cX8_flower 5 = .ok (.astore_n 3, 1) := by decide +kernel
theorem dX8_flower_6 : decode cX8_flower 6 = .ok (.aload_n 3, 1) := by decide +kernel
theorem dX8_flower_7 : decode cX8_flower 7 = .ok (.ifnull 8, 3) := by decide +kernel
theorem dX8_flower_10 : decode cX8_flower 10 = .ok (.iload_n 2, 1) := by decide +kernel
theorem dX8_flower_11 : decode cX8_flower 11 = .ok (.iconst (-1), 1) := by decide +kernel
theorem dX8_flower_12 : decode cX8_flower 12 = .ok (.if_icmp .ge 6, 3) := by decide +kernel
theorem dX8_flower_15 : decode cX8_flower 15 = .ok (.bipush (-2), 2) := by decide +kernel
theorem dX8_flower_17 : decode cX8_flower 17 = .ok (.ireturn, 1) := by decide +kernel
theorem dX8_flower_18 : decode cX8_flower 18 = .ok (.aload_n 0, 1) := by decide +kernel
theorem dX8_flower_19 : decode cX8_flower 19 = .ok (.aload_n 3, 1) := by decide +kernel
theorem dX8_flower_20 : decode cX8_flower 20 = .ok (.iload_n 2, 1) := by decide +kernel
theorem dX8_flower_21 : decode cX8_flower 21 = .ok (.invokevirtual 276, 3) := by decide +kernel
theorem dX8_flower_24 : decode cX8_flower 24 = .ok (.ireturn, 1) := by decide +kernel
theorem dX8_across_0 : decode cX8_across 0 = .ok (.aload_n 0, 1) := by decide +kernel
theorem dX8_across_1 : decode cX8_across 1 = .ok (.iload_n 1, 1) := by decide +kernel
theorem dX8_across_2 : decode cX8_across 2 = .ok (.invokevirtual 102, 3) := by decide +kernel
theorem dX8_across_5 : decode cX8_across 5 = .ok (.astore 4, 2) := by decide +kernel
theorem dX8_across_7 : decode cX8_across 7 = .ok (.aload_n 0, 1) := by decide +kernel
theorem dX8_across_8 : decode cX8_across 8 = .ok (.iload_n 2, 1) := by decide +kernel
theorem dX8_across_9 : decode cX8_across 9 = .ok (.invokevirtual 102, 3) := by decide +kernel
theorem dX8_across_12 : decode cX8_across 12 = .ok (.astore 5, 2) := by decide +kernel
theorem dX8_across_14 : decode cX8_across 14 = .ok (.aload 4, 2) := by decide +kernel
theorem dX8_across_16 : decode cX8_across 16 = .ok (.ifnull 17, 3) := by decide +kernel
theorem dX8_across_19 : decode cX8_across 19 = .ok (.aload 5, 2) := by decide +kernel
theorem dX8_across_21 : decode cX8_across 21 = .ok (.ifnull 12, 3) := by decide +kernel
theorem dX8_across_24 : decode cX8_across 24 = .ok (.iload_n 3, 1) := by decide +kernel
theorem dX8_across_25 : decode cX8_across 25 = .ok (.ifCond .lt 8, 3) := by decide +kernel
theorem dX8_across_28 : decode cX8_across 28 = .ok (.iload_n 3, 1) := by decide +kernel
theorem dX8_across_29 : decode cX8_across 29 = .ok (.iconst 3, 1) := by decide +kernel
theorem dX8_across_30 : decode cX8_across 30 = .ok (.if_icmp .le 6, 3) := by decide +kernel
theorem dX8_across_33 : decode cX8_across 33 = .ok (.bipush (-2), 2) := by decide +kernel
theorem dX8_across_35 : decode cX8_across 35 = .ok (.ireturn, 1) := by decide +kernel
theorem dX8_across_36 : decode cX8_across 36 = .ok (.iload_n 3, 1) := by decide +kernel
theorem dX8_across_37 : decode cX8_across 37 = .ok (.tableswitch 83 0 2 #[27, 48, 57], 27) := by decide +kernel
theorem dX8_across_64 : decode cX8_across 64 = .ok (.aload 4, 2) := by decide +kernel
theorem dX8_across_66 : decode cX8_across 66 = .ok (.invokevirtual 236, 3) := by decide +kernel
theorem dX8_across_69 : decode cX8_across 69 = .ok (.aload 5, 2) := by decide +kernel
theorem dX8_across_71 : decode cX8_across 71 = .ok (.invokevirtual 236, 3) := by decide +kernel
theorem dX8_across_74 : decode cX8_across 74 = .ok (.imul, 1) := by decide +kernel
theorem dX8_across_75 : decode cX8_across 75 = .ok (.aload_n 0, 1) := by decide +kernel
theorem dX8_across_76 : decode cX8_across 76 = .ok (.aload 4, 2) := by decide +kernel
theorem dX8_across_78 : decode cX8_across 78 = .ok (.aload 5, 2) := by decide +kernel
theorem dX8_across_80 : decode cX8_across 80 = .ok (.invokevirtual 279, 3) := by decide +kernel
theorem dX8_across_83 : decode cX8_across 83 = .ok (.isub, 1) := by decide +kernel
theorem dX8_across_84 : decode cX8_across 84 = .ok (.ireturn, 1) := by decide +kernel
theorem dX8_across_85 : decode cX8_across 85 = .ok (.aload_n 0, 1) := by decide +kernel
theorem dX8_across_86 : decode cX8_across 86 = .ok (.aload 4, 2) := by decide +kernel
theorem dX8_across_88 : decode cX8_across 88 = .ok (.aload 5, 2) := by decide +kernel
theorem dX8_across_90 : decode cX8_across 90 = .ok (.invokevirtual 279, 3) := by decide +kernel
theorem dX8_across_93 : decode cX8_across 93 = .ok (.ireturn, 1) := by decide +kernel
theorem dX8_across_94 : decode cX8_across 94 = .ok (.aload_n 0, 1) := by decide +kernel
theorem dX8_across_95 : decode cX8_across 95 = .ok (.getfield 16, 3) := by decide +kernel
theorem dX8_across_98 : decode cX8_across 98 = .ok (.aload 4, 2) := by decide +kernel
theorem dX8_across_100 : decode cX8_across 100 = .ok (.invokevirtual 152, 3) := by decide +kernel
theorem dX8_across_103 : decode cX8_across 103 = .ok (.aload_n 0, 1) := by decide +kernel
theorem dX8_across_104 : decode cX8_across 104 = .ok (.getfield 16, 3) := by decide +kernel
theorem dX8_across_107 : decode cX8_across 107 = .ok (.aload 5, 2) := by decide +kernel
theorem dX8_across_109 : decode cX8_across 109 = .ok (.invokevirtual 283, 3) := by decide +kernel
theorem dX8_across_112 : decode cX8_across 112 = .ok (.aload_n 0, 1) := by decide +kernel
theorem dX8_across_113 : decode cX8_across 113 = .ok (.getfield 16, 3) := by decide +kernel
theorem dX8_across_116 : decode cX8_across 116 = .ok (.invokevirtual 236, 3) := by decide +kernel
theorem dX8_across_119 : decode cX8_across 119 = .ok (.ireturn, 1) := by decide +kernel
theorem dX8_across_120 : decode cX8_across 120 = .ok (.aload_n 0, 1) := by decide +kernel
theorem dX8_across_121 : decode cX8_across 121 = .ok (.getfield 16, 3) := by decide +kernel
theorem dX8_across_124 : decode cX8_across 124 = .ok (.aload 4, 2) := by decide +kernel
theorem dX8_across_126 : decode cX8_across 126 = .ok (.invokevirtual 152, 3) := by decide +kernel
theorem dX8_across_129 : decode cX8_across 129 = .ok (.aload_n 0, 1) := by decide +kernel
theorem dX8_across_130 : decode cX8_across 130 = .ok (.getfield 16, 3) := by decide +kernel
theorem dX8_across_133 : decode cX8_across 133 = .ok (.aload 5, 2) := by decide +kernel
theorem dX8_across_135 : decode cX8_across 135 = .ok (.invokevirtual 286, 3) := by decide +kernel
theorem dX8_across_138 : decode cX8_across 138 = .ok (.aload_n 0, 1) := by decide +kernel
theorem dX8_across_139 : decode cX8_across 139 = .ok (.getfield 16, 3) := by decide +kernel
theorem dX8_across_142 : decode cX8_across 142 = .ok (.invokevirtual 236, 3) := by decide +kernel
theorem dX8_across_145 : decode cX8_across 145 = .ok (.ireturn, 1) := by decide +kernel
theorem dX8_answers_0 : decode cX8_answers 0 = .ok (.aload_n 0, 1) := by decide +kernel
theorem dX8_answers_1 : decode cX8_answers 1 = .ok (.iload_n 1, 1) := by decide +kernel
theorem dX8_answers_2 : decode cX8_answers 2 = .ok (.invokevirtual 102, 3) := by decide +kernel
theorem dX8_answers_5 : decode cX8_answers 5 = .ok (.astore_n 3, 1) := by decide +kernel
theorem dX8_answers_6 : decode cX8_answers 6 = .ok (.aload_n 3, 1) := by decide +kernel
theorem dX8_answers_7 : decode cX8_answers 7 = .ok (.ifnull 15, 3) := by decide +kernel
theorem dX8_answers_10 : decode cX8_answers 10 = .ok (.iload_n 2, 1) := by decide +kernel
theorem dX8_answers_11 : decode cX8_answers 11 = .ok (.ifCond .lt 11, 3) := by decide +kernel
theorem dX8_answers_14 : decode cX8_answers 14 = .ok (.iload_n 2, 1) := by decide +kernel
theorem dX8_answers_15 : decode cX8_answers 15 = .ok (.aload_n 3, 1) := by decide +kernel
theorem dX8_answers_16 : decode cX8_answers 16 = .ok (.getfield 133, 3) := by decide +kernel
theorem dX8_answers_19 : decode cX8_answers 19 = .ok (.if_icmp .le 6, 3) := by decide +kernel
theorem dX8_answers_22 : decode cX8_answers 22 = .ok (.bipush (-2), 2) := by decide +kernel
theorem dX8_answers_24 : decode cX8_answers 24 = .ok (.ireturn, 1) := by decide +kernel
theorem dX8_answers_25 : decode cX8_answers 25 = .ok (.aload_n 0, 1) := by decide +kernel
theorem dX8_answers_26 : decode cX8_answers 26 = .ok (.getfield 16, 3) := by decide +kernel
theorem dX8_answers_29 : decode cX8_answers 29 = .ok (.aload_n 3, 1) := by decide +kernel
theorem dX8_answers_30 : decode cX8_answers 30 = .ok (.invokevirtual 218, 3) := by decide +kernel
theorem dX8_answers_33 : decode cX8_answers 33 = .ok (.aload_n 0, 1) := by decide +kernel
theorem dX8_answers_34 : decode cX8_answers 34 = .ok (.getfield 16, 3) := by decide +kernel
theorem dX8_answers_37 : decode cX8_answers 37 = .ok (.iload_n 2, 1) := by decide +kernel
theorem dX8_answers_38 : decode cX8_answers 38 = .ok (.invokevirtual 139, 3) := by decide +kernel
theorem dX8_answers_41 : decode cX8_answers 41 = .ok (.ireturn, 1) := by decide +kernel
theorem dX8_alike_0 : decode cX8_alike 0 = .ok (.aload_n 0, 1) := by decide +kernel
theorem dX8_alike_1 : decode cX8_alike 1 = .ok (.iload_n 1, 1) := by decide +kernel
theorem dX8_alike_2 : decode cX8_alike 2 = .ok (.invokevirtual 102, 3) := by decide +kernel
theorem dX8_alike_5 : decode cX8_alike 5 = .ok (.astore_n 3, 1) := by decide +kernel
theorem dX8_alike_6 : decode cX8_alike 6 = .ok (.aload_n 0, 1) := by decide +kernel
theorem dX8_alike_7 : decode cX8_alike 7 = .ok (.iload_n 2, 1) := by decide +kernel
theorem dX8_alike_8 : decode cX8_alike 8 = .ok (.invokevirtual 102, 3) := by decide +kernel
theorem dX8_alike_11 : decode cX8_alike 11 = .ok (.astore 4, 2) := by decide +kernel
theorem dX8_alike_13 : decode cX8_alike 13 = .ok (.aload_n 3, 1) := by decide +kernel
theorem dX8_alike_14 : decode cX8_alike 14 = .ok (.ifnull 8, 3) := by decide +kernel
theorem dX8_alike_17 : decode cX8_alike 17 = .ok (.aload 4, 2) := by decide +kernel
theorem dX8_alike_19 : decode cX8_alike 19 = .ok (.ifnonnull 6, 3) := by decide +kernel
theorem dX8_alike_22 : decode cX8_alike 22 = .ok (.bipush (-2), 2) := by decide +kernel
theorem dX8_alike_24 : decode cX8_alike 24 = .ok (.ireturn, 1) := by decide +kernel
theorem dX8_alike_25 : decode cX8_alike 25 = .ok (.aload_n 3, 1) := by decide +kernel
theorem dX8_alike_26 : decode cX8_alike 26 = .ok (.getfield 133, 3) := by decide +kernel
theorem dX8_alike_29 : decode cX8_alike 29 = .ok (.aload 4, 2) := by decide +kernel
theorem dX8_alike_31 : decode cX8_alike 31 = .ok (.getfield 133, 3) := by decide +kernel
theorem dX8_alike_34 : decode cX8_alike 34 = .ok (.if_icmp .ne 17, 3) := by decide +kernel
theorem dX8_alike_37 : decode cX8_alike 37 = .ok (.aload_n 0, 1) := by decide +kernel
theorem dX8_alike_38 : decode cX8_alike 38 = .ok (.aload_n 3, 1) := by decide +kernel
theorem dX8_alike_39 : decode cX8_alike 39 = .ok (.aload 4, 2) := by decide +kernel
theorem dX8_alike_41 : decode cX8_alike 41 = .ok (.invokevirtual 289, 3) := by decide +kernel
theorem dX8_alike_44 : decode cX8_alike 44 = .ok (.ifCond .le 7, 3) := by decide +kernel
theorem dX8_alike_47 : decode cX8_alike 47 = .ok (.iconst 1, 1) := by decide +kernel
theorem dX8_alike_48 : decode cX8_alike 48 = .ok (.goto 4, 3) := by decide +kernel
theorem dX8_alike_51 : decode cX8_alike 51 = .ok (.iconst 0, 1) := by decide +kernel
theorem dX8_alike_52 : decode cX8_alike 52 = .ok (.ireturn, 1) := by decide +kernel
theorem dX8_selves_0 : decode cX8_selves 0 = .ok (.aload_n 0, 1) := by decide +kernel
theorem dX8_selves_1 : decode cX8_selves 1 = .ok (.iload_n 1, 1) := by decide +kernel
theorem dX8_selves_2 : decode cX8_selves 2 = .ok (.invokevirtual 102, 3) := by decide +kernel
theorem dX8_selves_5 : decode cX8_selves 5 = .ok (.astore_n 2, 1) := by decide +kernel
theorem dX8_selves_6 : decode cX8_selves 6 = .ok (.aload_n 2, 1) := by decide +kernel
theorem dX8_selves_7 : decode cX8_selves 7 = .ok (.ifnonnull 6, 3) := by decide +kernel
theorem dX8_selves_10 : decode cX8_selves 10 = .ok (.bipush (-2), 2) := by decide +kernel
theorem dX8_selves_12 : decode cX8_selves 12 = .ok (.ireturn, 1) := by decide +kernel
theorem dX8_selves_13 : decode cX8_selves 13 = .ok (.aload_n 0, 1) := by decide +kernel
theorem dX8_selves_14 : decode cX8_selves 14 = .ok (.aload_n 2, 1) := by decide +kernel
theorem dX8_selves_15 : decode cX8_selves 15 = .ok (.aload_n 2, 1) := by decide +kernel
theorem dX8_selves_16 : decode cX8_selves 16 = .ok (.invokevirtual 289, 3) := by decide +kernel
theorem dX8_selves_19 : decode cX8_selves 19 = .ok (.ireturn, 1) := by decide +kernel
theorem dX8_adds_0 : decode cX8_adds 0 = .ok (.aload_n 0, 1) := by decide +kernel
theorem dX8_adds_1 : decode cX8_adds 1 = .ok (.iload_n 1, 1) := by decide +kernel
theorem dX8_adds_2 : decode cX8_adds 2 = .ok (.invokevirtual 102, 3) := by decide +kernel
theorem dX8_adds_5 : decode cX8_adds 5 = .ok (.astore_n 3, 1) := by decide +kernel
theorem dX8_adds_6 : decode cX8_adds 6 = .ok (.aload_n 3, 1) := by decide +kernel
theorem dX8_adds_7 : decode cX8_adds 7 = .ok (.ifnull 11, 3) := by decide +kernel
theorem dX8_adds_10 : decode cX8_adds 10 = .ok (.aload_n 3, 1) := by decide +kernel
theorem dX8_adds_11 : decode cX8_adds 11 = .ok (.iload_n 2, 1) := by decide +kernel
theorem dX8_adds_12 : decode cX8_adds 12 = .ok (.invokevirtual 117, 3) := by decide +kernel
theorem dX8_adds_15 : decode cX8_adds 15 = .ok (.ifCond .ne 6, 3) := by decide +kernel
theorem dX8_adds_18 : decode cX8_adds 18 = .ok (.bipush (-2), 2) := by decide +kernel
theorem dX8_adds_20 : decode cX8_adds 20 = .ok (.ireturn, 1) := by decide +kernel
theorem dX8_adds_21 : decode cX8_adds 21 = .ok (.aload_n 3, 1) := by decide +kernel
theorem dX8_adds_22 : decode cX8_adds 22 = .ok (.iload_n 2, 1) := by decide +kernel
theorem dX8_adds_23 : decode cX8_adds 23 = .ok (.invokevirtual 120, 3) := by decide +kernel
theorem dX8_adds_26 : decode cX8_adds 26 = .ok (.ifCond .eq 6, 3) := by decide +kernel
theorem dX8_adds_29 : decode cX8_adds 29 = .ok (.bipush (-5), 2) := by decide +kernel
theorem dX8_adds_31 : decode cX8_adds 31 = .ok (.ireturn, 1) := by decide +kernel
theorem dX8_adds_32 : decode cX8_adds 32 = .ok (.aload_n 0, 1) := by decide +kernel
theorem dX8_adds_33 : decode cX8_adds 33 = .ok (.getfield 16, 3) := by decide +kernel
theorem dX8_adds_36 : decode cX8_adds 36 = .ok (.aload_n 3, 1) := by decide +kernel
theorem dX8_adds_37 : decode cX8_adds 37 = .ok (.invokevirtual 152, 3) := by decide +kernel
theorem dX8_adds_40 : decode cX8_adds 40 = .ok (.aload_n 0, 1) := by decide +kernel
theorem dX8_adds_41 : decode cX8_adds 41 = .ok (.getfield 16, 3) := by decide +kernel
theorem dX8_adds_44 : decode cX8_adds 44 = .ok (.iload_n 2, 1) := by decide +kernel
theorem dX8_adds_45 : decode cX8_adds 45 = .ok (.invokevirtual 187, 3) := by decide +kernel
theorem dX8_adds_48 : decode cX8_adds 48 = .ok (.aload_n 0, 1) := by decide +kernel
theorem dX8_adds_49 : decode cX8_adds 49 = .ok (.iload_n 1, 1) := by decide +kernel
theorem dX8_adds_50 : decode cX8_adds 50 = .ok (.aload_n 0, 1) := by decide +kernel
theorem dX8_adds_51 : decode cX8_adds 51 = .ok (.getfield 16, 3) := by decide +kernel
theorem dX8_adds_54 : decode cX8_adds 54 = .ok (.invokevirtual 84, 3) := by decide +kernel
theorem dX8_adds_57 : decode cX8_adds 57 = .ok (.ireturn, 1) := by decide +kernel
theorem dX8_without_0 : decode cX8_without 0 = .ok (.aload_n 0, 1) := by decide +kernel
theorem dX8_without_1 : decode cX8_without 1 = .ok (.iload_n 1, 1) := by decide +kernel
theorem dX8_without_2 : decode cX8_without 2 = .ok (.invokevirtual 102, 3) := by decide +kernel
theorem dX8_without_5 : decode cX8_without 5 = .ok (.astore 4, 2) := by decide +kernel
theorem dX8_without_7 : decode cX8_without 7 = .ok (.aload 4, 2) := by decide +kernel
theorem dX8_without_9 : decode cX8_without 9 = .ok (.ifnull 19, 3) := by decide +kernel
theorem dX8_without_12 : decode cX8_without 12 = .ok (.aload 4, 2) := by decide +kernel
theorem dX8_without_14 : decode cX8_without 14 = .ok (.iload_n 2, 1) := by decide +kernel
theorem dX8_without_15 : decode cX8_without 15 = .ok (.invokevirtual 117, 3) := by decide +kernel
theorem dX8_without_18 : decode cX8_without 18 = .ok (.ifCond .eq 10, 3) := by decide +kernel
theorem dX8_without_21 : decode cX8_without 21 = .ok (.iload_n 3, 1) := by decide +kernel
theorem dX8_without_22 : decode cX8_without 22 = .ok (.invokestatic 106, 3) := by decide +kernel
theorem dX8_without_25 : decode cX8_without 25 = .ok (.ifCond .ne 6, 3) := by decide +kernel
theorem dX8_without_28 : decode cX8_without 28 = .ok (.bipush (-2), 2) := by decide +kernel
theorem dX8_without_30 : decode cX8_without 30 = .ok (.ireturn, 1) := by decide +kernel
theorem dX8_without_31 : decode cX8_without 31 = .ok (.aload 4, 2) := by decide +kernel
theorem dX8_without_33 : decode cX8_without 33 = .ok (.iload_n 2, 1) := by decide +kernel
theorem dX8_without_34 : decode cX8_without 34 = .ok (.invokevirtual 120, 3) := by decide +kernel
theorem dX8_without_37 : decode cX8_without 37 = .ok (.ifCond .ne 6, 3) := by decide +kernel
theorem dX8_without_40 : decode cX8_without 40 = .ok (.bipush (-6), 2) := by decide +kernel
theorem dX8_without_42 : decode cX8_without 42 = .ok (.ireturn, 1) := by decide +kernel
theorem dX8_without_43 : decode cX8_without 43 = .ok (.aload_n 0, 1) := by decide +kernel
theorem dX8_without_44 : decode cX8_without 44 = .ok (.getfield 20, 3) := by decide +kernel
theorem dX8_without_47 : decode cX8_without 47 = .ok (.aload 4, 2) := by decide +kernel
theorem dX8_without_49 : decode cX8_without 49 = .ok (.invokevirtual 152, 3) := by decide +kernel
theorem dX8_without_52 : decode cX8_without 52 = .ok (.aload_n 0, 1) := by decide +kernel
theorem dX8_without_53 : decode cX8_without 53 = .ok (.getfield 20, 3) := by decide +kernel
theorem dX8_without_56 : decode cX8_without 56 = .ok (.iload_n 2, 1) := by decide +kernel
theorem dX8_without_57 : decode cX8_without 57 = .ok (.invokevirtual 292, 3) := by decide +kernel
theorem dX8_without_60 : decode cX8_without 60 = .ok (.aload_n 0, 1) := by decide +kernel
theorem dX8_without_61 : decode cX8_without 61 = .ok (.aload_n 0, 1) := by decide +kernel
theorem dX8_without_62 : decode cX8_without 62 = .ok (.getfield 20, 3) := by decide +kernel
theorem dX8_without_65 : decode cX8_without 65 = .ok (.iload_n 3, 1) := by decide +kernel
theorem dX8_without_66 : decode cX8_without 66 = .ok (.invokevirtual 109, 3) := by decide +kernel
theorem dX8_without_69 : decode cX8_without 69 = .ok (.ireturn, 1) := by decide +kernel
theorem dX8_cuts_0 : decode cX8_cuts 0 = .ok (.aload_n 0, 1) := by decide +kernel
theorem dX8_cuts_1 : decode cX8_cuts 1 = .ok (.iload_n 1, 1) := by decide +kernel
theorem dX8_cuts_2 : decode cX8_cuts 2 = .ok (.invokevirtual 102, 3) := by decide +kernel
theorem dX8_cuts_5 : decode cX8_cuts 5 = .ok (.astore_n 3, 1) := by decide +kernel
theorem dX8_cuts_6 : decode cX8_cuts 6 = .ok (.aload_n 3, 1) := by decide +kernel
theorem dX8_cuts_7 : decode cX8_cuts 7 = .ok (.ifnull 11, 3) := by decide +kernel
theorem dX8_cuts_10 : decode cX8_cuts 10 = .ok (.aload_n 3, 1) := by decide +kernel
theorem dX8_cuts_11 : decode cX8_cuts 11 = .ok (.iload_n 2, 1) := by decide +kernel
theorem dX8_cuts_12 : decode cX8_cuts 12 = .ok (.invokevirtual 117, 3) := by decide +kernel
theorem dX8_cuts_15 : decode cX8_cuts 15 = .ok (.ifCond .ne 6, 3) := by decide +kernel
theorem dX8_cuts_18 : decode cX8_cuts 18 = .ok (.bipush (-2), 2) := by decide +kernel
theorem dX8_cuts_20 : decode cX8_cuts 20 = .ok (.ireturn, 1) := by decide +kernel
theorem dX8_cuts_21 : decode cX8_cuts 21 = .ok (.aload_n 3, 1) := by decide +kernel
theorem dX8_cuts_22 : decode cX8_cuts 22 = .ok (.iload_n 2, 1) := by decide +kernel
theorem dX8_cuts_23 : decode cX8_cuts 23 = .ok (.invokevirtual 120, 3) := by decide +kernel
theorem dX8_cuts_26 : decode cX8_cuts 26 = .ok (.ifCond .ne 6, 3) := by decide +kernel
theorem dX8_cuts_29 : decode cX8_cuts 29 = .ok (.bipush (-6), 2) := by decide +kernel
theorem dX8_cuts_31 : decode cX8_cuts 31 = .ok (.ireturn, 1) := by decide +kernel
theorem dX8_cuts_32 : decode cX8_cuts 32 = .ok (.aload_n 0, 1) := by decide +kernel
theorem dX8_cuts_33 : decode cX8_cuts 33 = .ok (.getfield 16, 3) := by decide +kernel
theorem dX8_cuts_36 : decode cX8_cuts 36 = .ok (.aload_n 3, 1) := by decide +kernel
theorem dX8_cuts_37 : decode cX8_cuts 37 = .ok (.invokevirtual 152, 3) := by decide +kernel
theorem dX8_cuts_40 : decode cX8_cuts 40 = .ok (.aload_n 0, 1) := by decide +kernel
theorem dX8_cuts_41 : decode cX8_cuts 41 = .ok (.getfield 16, 3) := by decide +kernel
theorem dX8_cuts_44 : decode cX8_cuts 44 = .ok (.iload_n 2, 1) := by decide +kernel
theorem dX8_cuts_45 : decode cX8_cuts 45 = .ok (.invokevirtual 292, 3) := by decide +kernel
theorem dX8_cuts_48 : decode cX8_cuts 48 = .ok (.aload_n 0, 1) := by decide +kernel
theorem dX8_cuts_49 : decode cX8_cuts 49 = .ok (.iload_n 1, 1) := by decide +kernel
theorem dX8_cuts_50 : decode cX8_cuts 50 = .ok (.aload_n 0, 1) := by decide +kernel
theorem dX8_cuts_51 : decode cX8_cuts 51 = .ok (.getfield 16, 3) := by decide +kernel
theorem dX8_cuts_54 : decode cX8_cuts 54 = .ok (.invokevirtual 84, 3) := by decide +kernel
theorem dX8_cuts_57 : decode cX8_cuts 57 = .ok (.ireturn, 1) := by decide +kernel
theorem dX8_drops_0 : decode cX8_drops 0 = .ok (.iload_n 1, 1) := by decide +kernel
theorem dX8_drops_1 : decode cX8_drops 1 = .ok (.invokestatic 77, 3) := by decide +kernel
theorem dX8_drops_4 : decode cX8_drops 4 = .ok (.ifCond .ne 6, 3) := by decide +kernel
theorem dX8_drops_7 : decode cX8_drops 7 = .ok (.bipush (-2), 2) := by decide +kernel
theorem dX8_drops_9 : decode cX8_drops 9 = .ok (.ireturn, 1) := by decide +kernel
theorem dX8_drops_10 : decode cX8_drops 10 = .ok (.aload_n 0, 1) := by decide +kernel
theorem dX8_drops_11 : decode cX8_drops 11 = .ok (.iload_n 1, 1) := by decide +kernel
theorem dX8_drops_12 : decode cX8_drops 12 = .ok (.invokevirtual 102, 3) := by decide +kernel
theorem dX8_drops_15 : decode cX8_drops 15 = .ok (.ifnonnull 5, 3) := by decide +kernel
theorem dX8_drops_18 : decode cX8_drops 18 = .ok (.iconst 0, 1) := by decide +kernel
theorem dX8_drops_19 : decode cX8_drops 19 = .ok (.ireturn, 1) := by decide +kernel
theorem dX8_drops_20 : decode cX8_drops 20 = .ok (.aload_n 0, 1) := by decide +kernel
theorem dX8_drops_21 : decode cX8_drops 21 = .ok (.getfield 16, 3) := by decide +kernel
theorem dX8_drops_24 : decode cX8_drops 24 = .ok (.iconst 0, 1) := by decide +kernel
theorem dX8_drops_25 : decode cX8_drops 25 = .ok (.invokevirtual 146, 3) := by decide +kernel
theorem dX8_drops_28 : decode cX8_drops 28 = .ok (.aload_n 0, 1) := by decide +kernel
theorem dX8_drops_29 : decode cX8_drops 29 = .ok (.iload_n 1, 1) := by decide +kernel
theorem dX8_drops_30 : decode cX8_drops 30 = .ok (.aload_n 0, 1) := by decide +kernel
theorem dX8_drops_31 : decode cX8_drops 31 = .ok (.getfield 16, 3) := by decide +kernel
theorem dX8_drops_34 : decode cX8_drops 34 = .ok (.invokevirtual 84, 3) := by decide +kernel
theorem dX8_drops_37 : decode cX8_drops 37 = .ok (.pop, 1) := by decide +kernel
theorem dX8_drops_38 : decode cX8_drops 38 = .ok (.iconst 1, 1) := by decide +kernel
theorem dX8_drops_39 : decode cX8_drops 39 = .ok (.ireturn, 1) := by decide +kernel
theorem dX8_undo_0 : decode cX8_undo 0 = .ok (.aload_n 0, 1) := by decide +kernel
theorem dX8_undo_1 : decode cX8_undo 1 = .ok (.getfield 47, 3) := by decide +kernel
theorem dX8_undo_4 : decode cX8_undo 4 = .ok (.getfield 98, 3) := by decide +kernel
theorem dX8_undo_7 : decode cX8_undo 7 = .ok (.ifCond .ne 5, 3) := by decide +kernel
theorem dX8_undo_10 : decode cX8_undo 10 = .ok (.iconst (-1), 1) := by decide +kernel
theorem dX8_undo_11 : decode cX8_undo 11 = .ok (.ireturn, 1) := by decide +kernel
theorem dX8_undo_12 : decode cX8_undo 12 = .ok (.aload_n 0, 1) := by decide +kernel
theorem dX8_undo_13 : decode cX8_undo 13 = .ok (.getfield 47, 3) := by decide +kernel
theorem dX8_undo_16 : decode cX8_undo 16 = .ok (.invokevirtual 295, 3) := by decide +kernel
theorem dX8_undo_19 : decode cX8_undo 19 = .ok (.istore_n 1, 1) := by decide +kernel
theorem dX8_undo_20 : decode cX8_undo 20 = .ok (.iload_n 1, 1) := by decide +kernel
theorem dX8_undo_21 : decode cX8_undo 21 = .ok (.invokestatic 77, 3) := by decide +kernel
theorem dX8_undo_24 : decode cX8_undo 24 = .ok (.ifCond .eq 16, 3) := by decide +kernel
theorem dX8_undo_27 : decode cX8_undo 27 = .ok (.aload_n 0, 1) := by decide +kernel
theorem dX8_undo_28 : decode cX8_undo 28 = .ok (.getfield 47, 3) := by decide +kernel
theorem dX8_undo_31 : decode cX8_undo 31 = .ok (.aload_n 0, 1) := by decide +kernel
theorem dX8_undo_32 : decode cX8_undo 32 = .ok (.getfield 11, 3) := by decide +kernel
theorem dX8_undo_35 : decode cX8_undo 35 = .ok (.iload_n 1, 1) := by decide +kernel
theorem dX8_undo_36 : decode cX8_undo 36 = .ok (.aaload, 1) := by decide +kernel
theorem dX8_undo_37 : decode cX8_undo 37 = .ok (.invokevirtual 298, 3) := by decide +kernel
theorem dX8_undo_40 : decode cX8_undo 40 = .ok (.aload_n 0, 1) := by decide +kernel
theorem dX8_undo_41 : decode cX8_undo 41 = .ok (.getfield 47, 3) := by decide +kernel
theorem dX8_undo_44 : decode cX8_undo 44 = .ok (.getfield 98, 3) := by decide +kernel
theorem dX8_undo_47 : decode cX8_undo 47 = .ok (.ireturn, 1) := by decide +kernel
theorem dX8_tell_0 : decode cX8_tell 0 = .ok (.aload_n 0, 1) := by decide +kernel
theorem dX8_tell_1 : decode cX8_tell 1 = .ok (.iload_n 1, 1) := by decide +kernel
theorem dX8_tell_2 : decode cX8_tell 2 = .ok (.invokevirtual 102, 3) := by decide +kernel
theorem dX8_tell_5 : decode cX8_tell 5 = .ok (.astore_n 2, 1) := by decide +kernel
theorem dX8_tell_6 : decode cX8_tell 6 = .ok (.aload_n 2, 1) := by decide +kernel
theorem dX8_tell_7 : decode cX8_tell 7 = .ok (.ifnonnull 6, 3) := by decide +kernel
theorem dX8_tell_10 : decode cX8_tell 10 = .ok (.bipush (-2), 2) := by decide +kernel
theorem dX8_tell_12 : decode cX8_tell 12 = .ok (.ireturn, 1) := by decide +kernel
theorem dX8_tell_13 : decode cX8_tell 13 = .ok (.aload_n 0, 1) := by decide +kernel
theorem dX8_tell_14 : decode cX8_tell 14 = .ok (.getfield 40, 3) := by decide +kernel
theorem dX8_tell_17 : decode cX8_tell 17 = .ok (.aload_n 2, 1) := by decide +kernel
theorem dX8_tell_18 : decode cX8_tell 18 = .ok (.invokevirtual 301, 3) := by decide +kernel
theorem dX8_tell_21 : decode cX8_tell 21 = .ok (.aload_n 0, 1) := by decide +kernel
theorem dX8_tell_22 : decode cX8_tell 22 = .ok (.getfield 40, 3) := by decide +kernel
theorem dX8_tell_25 : decode cX8_tell 25 = .ok (.getfield 101, 3) := by decide +kernel
theorem dX8_tell_28 : decode cX8_tell 28 = .ok (.ireturn, 1) := by decide +kernel
theorem dX8_octet_0 : decode cX8_octet 0 = .ok (.aload_n 0, 1) := by decide +kernel
theorem dX8_octet_1 : decode cX8_octet 1 = .ok (.getfield 40, 3) := by decide +kernel
theorem dX8_octet_4 : decode cX8_octet 4 = .ok (.iload_n 1, 1) := by decide +kernel
theorem dX8_octet_5 : decode cX8_octet 5 = .ok (.invokevirtual 304, 3) := by decide +kernel
theorem dX8_octet_8 : decode cX8_octet 8 = .ok (.ireturn, 1) := by decide +kernel
theorem dX8_common_0 : decode cX8_common 0 = .ok (.aload_n 0, 1) := by decide +kernel
theorem dX8_common_1 : decode cX8_common 1 = .ok (.iload_n 1, 1) := by decide +kernel
theorem dX8_common_2 : decode cX8_common 2 = .ok (.invokevirtual 102, 3) := by decide +kernel
theorem dX8_common_5 : decode cX8_common 5 = .ok (.astore 4, 2) := by decide +kernel
theorem dX8_common_7 : decode cX8_common 7 = .ok (.aload 4, 2) := by decide +kernel
theorem dX8_common_9 : decode cX8_common 9 = .ok (.ifnull 25, 3) := by decide +kernel
theorem dX8_common_12 : decode cX8_common 12 = .ok (.aload 4, 2) := by decide +kernel
theorem dX8_common_14 : decode cX8_common 14 = .ok (.iload_n 2, 1) := by decide +kernel
theorem dX8_common_15 : decode cX8_common 15 = .ok (.invokevirtual 117, 3) := by decide +kernel
theorem dX8_common_18 : decode cX8_common 18 = .ok (.ifCond .eq 16, 3) := by decide +kernel
theorem dX8_common_21 : decode cX8_common 21 = .ok (.iload_n 3, 1) := by decide +kernel
theorem dX8_common_22 : decode cX8_common 22 = .ok (.ifCond .lt 12, 3) := by decide +kernel
theorem dX8_common_25 : decode cX8_common 25 = .ok (.iload_n 3, 1) := by decide +kernel
theorem dX8_common_26 : decode cX8_common 26 = .ok (.aload 4, 2) := by decide +kernel
theorem dX8_common_28 : decode cX8_common 28 = .ok (.getfield 133, 3) := by decide +kernel
theorem dX8_common_31 : decode cX8_common 31 = .ok (.if_icmp .le 6, 3) := by decide +kernel
theorem dX8_common_34 : decode cX8_common 34 = .ok (.bipush (-2), 2) := by decide +kernel
theorem dX8_common_36 : decode cX8_common 36 = .ok (.ireturn, 1) := by decide +kernel
theorem dX8_common_37 : decode cX8_common 37 = .ok (.iconst 0, 1) := by decide +kernel
theorem dX8_common_38 : decode cX8_common 38 = .ok (.istore 5, 2) := by decide +kernel
theorem dX8_common_40 : decode cX8_common 40 = .ok (.iconst 0, 1) := by decide +kernel
theorem dX8_common_41 : decode cX8_common 41 = .ok (.istore 6, 2) := by decide +kernel
theorem dX8_common_43 : decode cX8_common 43 = .ok (.iload 6, 2) := by decide +kernel
theorem dX8_common_45 : decode cX8_common 45 = .ok (.aload 4, 2) := by decide +kernel
theorem dX8_common_47 : decode cX8_common 47 = .ok (.invokevirtual 270, 3) := by decide +kernel
theorem dX8_common_50 : decode cX8_common 50 = .ok (.if_icmp .ge 33, 3) := by decide +kernel
theorem dX8_common_53 : decode cX8_common 53 = .ok (.aload 4, 2) := by decide +kernel
theorem dX8_common_55 : decode cX8_common 55 = .ok (.iload 6, 2) := by decide +kernel
theorem dX8_common_57 : decode cX8_common 57 = .ok (.invokevirtual 120, 3) := by decide +kernel
theorem dX8_common_60 : decode cX8_common 60 = .ok (.ifCond .eq 17, 3) := by decide +kernel
theorem dX8_common_63 : decode cX8_common 63 = .ok (.iload 6, 2) := by decide +kernel
theorem dX8_common_65 : decode cX8_common 65 = .ok (.iload_n 2, 1) := by decide +kernel
theorem dX8_common_66 : decode cX8_common 66 = .ok (.iand, 1) := by decide +kernel
theorem dX8_common_67 : decode cX8_common 67 = .ok (.invokestatic 190, 3) := by decide +kernel
theorem dX8_common_70 : decode cX8_common 70 = .ok (.iload_n 3, 1) := by decide +kernel
theorem dX8_common_71 : decode cX8_common 71 = .ok (.if_icmp .ne 6, 3) := by decide +kernel
theorem dX8_common_74 : decode cX8_common 74 = .ok (.iinc 5 1, 3) := by decide +kernel
theorem dX8_common_77 : decode cX8_common 77 = .ok (.iinc 6 1, 3) := by decide +kernel
theorem dX8_common_80 : decode cX8_common 80 = .ok (.goto (-37), 3) := by decide +kernel
theorem dX8_common_83 : decode cX8_common 83 = .ok (.iload 5, 2) := by decide +kernel
theorem dX8_common_85 : decode cX8_common 85 = .ok (.ireturn, 1) := by decide +kernel
theorem dX8_lacks_0 : decode cX8_lacks 0 = .ok (.aload_n 0, 1) := by decide +kernel
theorem dX8_lacks_1 : decode cX8_lacks 1 = .ok (.iload_n 1, 1) := by decide +kernel
theorem dX8_lacks_2 : decode cX8_lacks 2 = .ok (.invokevirtual 102, 3) := by decide +kernel
theorem dX8_lacks_5 : decode cX8_lacks 5 = .ok (.astore_n 3, 1) := by decide +kernel
theorem dX8_lacks_6 : decode cX8_lacks 6 = .ok (.aload_n 3, 1) := by decide +kernel
theorem dX8_lacks_7 : decode cX8_lacks 7 = .ok (.ifnull 7, 3) := by decide +kernel
theorem dX8_lacks_10 : decode cX8_lacks 10 = .ok (.iload_n 2, 1) := by decide +kernel
theorem dX8_lacks_11 : decode cX8_lacks 11 = .ok (.ifCond .ge 6, 3) := by decide +kernel
theorem dX8_lacks_14 : decode cX8_lacks 14 = .ok (.bipush (-2), 2) := by decide +kernel
theorem dX8_lacks_16 : decode cX8_lacks 16 = .ok (.ireturn, 1) := by decide +kernel
theorem dX8_lacks_17 : decode cX8_lacks 17 = .ok (.aload_n 0, 1) := by decide +kernel
theorem dX8_lacks_18 : decode cX8_lacks 18 = .ok (.getfield 16, 3) := by decide +kernel
theorem dX8_lacks_21 : decode cX8_lacks 21 = .ok (.aload_n 3, 1) := by decide +kernel
theorem dX8_lacks_22 : decode cX8_lacks 22 = .ok (.getfield 133, 3) := by decide +kernel
theorem dX8_lacks_25 : decode cX8_lacks 25 = .ok (.invokevirtual 307, 3) := by decide +kernel
theorem dX8_lacks_28 : decode cX8_lacks 28 = .ok (.aload_n 0, 1) := by decide +kernel
theorem dX8_lacks_29 : decode cX8_lacks 29 = .ok (.getfield 16, 3) := by decide +kernel
theorem dX8_lacks_32 : decode cX8_lacks 32 = .ok (.aload_n 3, 1) := by decide +kernel
theorem dX8_lacks_33 : decode cX8_lacks 33 = .ok (.invokevirtual 310, 3) := by decide +kernel
theorem dX8_lacks_36 : decode cX8_lacks 36 = .ok (.aload_n 0, 1) := by decide +kernel
theorem dX8_lacks_37 : decode cX8_lacks 37 = .ok (.getfield 16, 3) := by decide +kernel
theorem dX8_lacks_40 : decode cX8_lacks 40 = .ok (.iload_n 2, 1) := by decide +kernel
theorem dX8_lacks_41 : decode cX8_lacks 41 = .ok (.invokevirtual 113, 3) := by decide +kernel
theorem dX8_lacks_44 : decode cX8_lacks 44 = .ok (.ireturn, 1) := by decide +kernel
theorem dX8_moved_0 : decode cX8_moved 0 = .ok (.aload_n 0, 1) := by decide +kernel
theorem dX8_moved_1 : decode cX8_moved 1 = .ok (.iload_n 1, 1) := by decide +kernel
theorem dX8_moved_2 : decode cX8_moved 2 = .ok (.invokevirtual 102, 3) := by decide +kernel
theorem dX8_moved_5 : decode cX8_moved 5 = .ok (.astore_n 2, 1) := by decide +kernel
theorem dX8_moved_6 : decode cX8_moved 6 = .ok (.aload_n 2, 1) := by decide +kernel
theorem dX8_moved_7 : decode cX8_moved 7 = .ok (.ifnonnull 6, 3) := by decide +kernel
theorem dX8_moved_10 : decode cX8_moved 10 = .ok (.bipush (-2), 2) := by decide +kernel
theorem dX8_moved_12 : decode cX8_moved 12 = .ok (.ireturn, 1) := by decide +kernel
theorem dX8_moved_13 : decode cX8_moved 13 = .ok (.aload_n 0, 1) := by decide +kernel
theorem dX8_moved_14 : decode cX8_moved 14 = .ok (.aload_n 2, 1) := by decide +kernel
theorem dX8_moved_15 : decode cX8_moved 15 = .ok (.invokevirtual 313, 3) := by decide +kernel
theorem dX8_moved_18 : decode cX8_moved 18 = .ok (.ireturn, 1) := by decide +kernel
theorem dX8_together_0 : decode cX8_together 0 = .ok (.aload_n 0, 1) := by decide +kernel
theorem dX8_together_1 : decode cX8_together 1 = .ok (.iload_n 1, 1) := by decide +kernel
theorem dX8_together_2 : decode cX8_together 2 = .ok (.invokevirtual 102, 3) := by decide +kernel
theorem dX8_together_5 : decode cX8_together 5 = .ok (.astore 5, 2) := by decide +kernel
theorem dX8_together_7 : decode cX8_together 7 = .ok (.aload 5, 2) := by decide +kernel
theorem dX8_together_9 : decode cX8_together 9 = .ok (.ifnull 32, 3) := by decide +kernel
theorem dX8_together_12 : decode cX8_together 12 = .ok (.aload 5, 2) := by decide +kernel
theorem dX8_together_14 : decode cX8_together 14 = .ok (.iload_n 2, 1) := by decide +kernel
theorem dX8_together_15 : decode cX8_together 15 = .ok (.invokevirtual 127, 3) := by decide +kernel
theorem dX8_together_18 : decode cX8_together 18 = .ok (.ifCond .eq 23, 3) := by decide +kernel
theorem dX8_together_21 : decode cX8_together 21 = .ok (.aload 5, 2) := by decide +kernel
theorem dX8_together_23 : decode cX8_together 23 = .ok (.iload_n 3, 1) := by decide +kernel
theorem dX8_together_24 : decode cX8_together 24 = .ok (.invokevirtual 127, 3) := by decide +kernel
theorem dX8_together_27 : decode cX8_together 27 = .ok (.ifCond .eq 14, 3) := by decide +kernel
theorem dX8_together_30 : decode cX8_together 30 = .ok (.iload 4, 2) := by decide +kernel
theorem dX8_together_32 : decode cX8_together 32 = .ok (.ifCond .lt 9, 3) := by decide +kernel
theorem dX8_together_35 : decode cX8_together 35 = .ok (.iload 4, 2) := by decide +kernel
theorem dX8_together_37 : decode cX8_together 37 = .ok (.iconst 1, 1) := by decide +kernel
theorem dX8_together_38 : decode cX8_together 38 = .ok (.if_icmp .le 6, 3) := by decide +kernel
theorem dX8_together_41 : decode cX8_together 41 = .ok (.bipush (-2), 2) := by decide +kernel
theorem dX8_together_43 : decode cX8_together 43 = .ok (.ireturn, 1) := by decide +kernel
theorem dX8_together_44 : decode cX8_together 44 = .ok (.aload_n 0, 1) := by decide +kernel
theorem dX8_together_45 : decode cX8_together 45 = .ok (.getfield 16, 3) := by decide +kernel
theorem dX8_together_48 : decode cX8_together 48 = .ok (.aload 5, 2) := by decide +kernel
theorem dX8_together_50 : decode cX8_together 50 = .ok (.invokevirtual 152, 3) := by decide +kernel
theorem dX8_together_53 : decode cX8_together 53 = .ok (.aload_n 0, 1) := by decide +kernel
theorem dX8_together_54 : decode cX8_together 54 = .ok (.getfield 16, 3) := by decide +kernel
theorem dX8_together_57 : decode cX8_together 57 = .ok (.iload_n 2, 1) := by decide +kernel
theorem dX8_together_58 : decode cX8_together 58 = .ok (.invokevirtual 316, 3) := by decide +kernel
theorem dX8_together_61 : decode cX8_together 61 = .ok (.aload_n 0, 1) := by decide +kernel
theorem dX8_together_62 : decode cX8_together 62 = .ok (.getfield 16, 3) := by decide +kernel
theorem dX8_together_65 : decode cX8_together 65 = .ok (.iload_n 3, 1) := by decide +kernel
theorem dX8_together_66 : decode cX8_together 66 = .ok (.invokevirtual 316, 3) := by decide +kernel
theorem dX8_together_69 : decode cX8_together 69 = .ok (.aload_n 0, 1) := by decide +kernel
theorem dX8_together_70 : decode cX8_together 70 = .ok (.getfield 16, 3) := by decide +kernel
theorem dX8_together_73 : decode cX8_together 73 = .ok (.invokevirtual 236, 3) := by decide +kernel
theorem dX8_together_76 : decode cX8_together 76 = .ok (.istore 6, 2) := by decide +kernel
theorem dX8_together_78 : decode cX8_together 78 = .ok (.iload 4, 2) := by decide +kernel
theorem dX8_together_80 : decode cX8_together 80 = .ok (.ifCond .ne 8, 3) := by decide +kernel
theorem dX8_together_83 : decode cX8_together 83 = .ok (.iload 6, 2) := by decide +kernel
theorem dX8_together_85 : decode cX8_together 85 = .ok (.goto 21, 3) := by decide +kernel
theorem dX8_together_88 : decode cX8_together 88 = .ok (.aload 5, 2) := by decide +kernel
theorem dX8_together_90 : decode cX8_together 90 = .ok (.iload_n 2, 1) := by decide +kernel
theorem dX8_together_91 : decode cX8_together 91 = .ok (.invokevirtual 130, 3) := by decide +kernel
theorem dX8_together_94 : decode cX8_together 94 = .ok (.aload 5, 2) := by decide +kernel
theorem dX8_together_96 : decode cX8_together 96 = .ok (.iload_n 3, 1) := by decide +kernel
theorem dX8_together_97 : decode cX8_together 97 = .ok (.invokevirtual 130, 3) := by decide +kernel
theorem dX8_together_100 : decode cX8_together 100 = .ok (.iadd, 1) := by decide +kernel
theorem dX8_together_101 : decode cX8_together 101 = .ok (.iconst 2, 1) := by decide +kernel
theorem dX8_together_102 : decode cX8_together 102 = .ok (.iload 6, 2) := by decide +kernel
theorem dX8_together_104 : decode cX8_together 104 = .ok (.imul, 1) := by decide +kernel
theorem dX8_together_105 : decode cX8_together 105 = .ok (.isub, 1) := by decide +kernel
theorem dX8_together_106 : decode cX8_together 106 = .ok (.ireturn, 1) := by decide +kernel
theorem dX8_half_0 : decode cX8_half 0 = .ok (.aload_n 0, 1) := by decide +kernel
theorem dX8_half_1 : decode cX8_half 1 = .ok (.iload_n 1, 1) := by decide +kernel
theorem dX8_half_2 : decode cX8_half 2 = .ok (.invokevirtual 102, 3) := by decide +kernel
theorem dX8_half_5 : decode cX8_half 5 = .ok (.astore_n 2, 1) := by decide +kernel
theorem dX8_half_6 : decode cX8_half 6 = .ok (.aload_n 2, 1) := by decide +kernel
theorem dX8_half_7 : decode cX8_half 7 = .ok (.ifnonnull 6, 3) := by decide +kernel
theorem dX8_half_10 : decode cX8_half 10 = .ok (.bipush (-2), 2) := by decide +kernel
theorem dX8_half_12 : decode cX8_half 12 = .ok (.ireturn, 1) := by decide +kernel
theorem dX8_half_13 : decode cX8_half 13 = .ok (.iconst 0, 1) := by decide +kernel
theorem dX8_half_14 : decode cX8_half 14 = .ok (.istore_n 3, 1) := by decide +kernel
theorem dX8_half_15 : decode cX8_half 15 = .ok (.iconst 0, 1) := by decide +kernel
theorem dX8_half_16 : decode cX8_half 16 = .ok (.istore 4, 2) := by decide +kernel
theorem dX8_half_18 : decode cX8_half 18 = .ok (.iload 4, 2) := by decide +kernel
theorem dX8_half_20 : decode cX8_half 20 = .ok (.aload_n 2, 1) := by decide +kernel
theorem dX8_half_21 : decode cX8_half 21 = .ok (.getfield 133, 3) := by decide +kernel
theorem dX8_half_24 : decode cX8_half 24 = .ok (.if_icmp .ge 31, 3) := by decide +kernel
theorem dX8_half_27 : decode cX8_half 27 = .ok (.iconst 2, 1) := by decide +kernel
theorem dX8_half_28 : decode cX8_half 28 = .ok (.aload_n 2, 1) := by decide +kernel
theorem dX8_half_29 : decode cX8_half 29 = .ok (.iload 4, 2) := by decide +kernel
theorem dX8_half_31 : decode cX8_half 31 = .ok (.invokevirtual 130, 3) := by decide +kernel
theorem dX8_half_34 : decode cX8_half 34 = .ok (.imul, 1) := by decide +kernel
theorem dX8_half_35 : decode cX8_half 35 = .ok (.aload_n 2, 1) := by decide +kernel
theorem dX8_half_36 : decode cX8_half 36 = .ok (.invokevirtual 236, 3) := by decide +kernel
theorem dX8_half_39 : decode cX8_half 39 = .ok (.if_icmp .lt 10, 3) := by decide +kernel
theorem dX8_half_42 : decode cX8_half 42 = .ok (.iload_n 3, 1) := by decide +kernel
theorem dX8_half_43 : decode cX8_half 43 = .ok (.iconst 1, 1) := by decide +kernel
theorem dX8_half_44 : decode cX8_half 44 = .ok (.iload 4, 2) := by decide +kernel
theorem dX8_half_46 : decode cX8_half 46 = .ok (.ishl, 1) := by decide +kernel
theorem dX8_half_47 : decode cX8_half 47 = .ok (.ior, 1) := by decide +kernel
theorem dX8_half_48 : decode cX8_half 48 = .ok (.istore_n 3, 1) := by decide +kernel
theorem dX8_half_49 : decode cX8_half 49 = .ok (.iinc 4 1, 3) := by decide +kernel
theorem dX8_half_52 : decode cX8_half 52 = .ok (.goto (-34), 3) := by decide +kernel
theorem dX8_half_55 : decode cX8_half 55 = .ok (.iload_n 3, 1) := by decide +kernel
theorem dX8_half_56 : decode cX8_half 56 = .ok (.ireturn, 1) := by decide +kernel
theorem dX8_next_0 : decode cX8_next 0 = .ok (.aload_n 0, 1) := by decide +kernel
theorem dX8_next_1 : decode cX8_next 1 = .ok (.iload_n 1, 1) := by decide +kernel
theorem dX8_next_2 : decode cX8_next 2 = .ok (.invokevirtual 102, 3) := by decide +kernel
theorem dX8_next_5 : decode cX8_next 5 = .ok (.astore_n 3, 1) := by decide +kernel
theorem dX8_next_6 : decode cX8_next 6 = .ok (.aload_n 3, 1) := by decide +kernel
theorem dX8_next_7 : decode cX8_next 7 = .ok (.ifnull 11, 3) := by decide +kernel
theorem dX8_next_10 : decode cX8_next 10 = .ok (.aload_n 3, 1) := by decide +kernel
theorem dX8_next_11 : decode cX8_next 11 = .ok (.iload_n 2, 1) := by decide +kernel
theorem dX8_next_12 : decode cX8_next 12 = .ok (.invokevirtual 117, 3) := by decide +kernel
theorem dX8_next_15 : decode cX8_next 15 = .ok (.ifCond .ne 6, 3) := by decide +kernel
theorem dX8_next_18 : decode cX8_next 18 = .ok (.bipush (-2), 2) := by decide +kernel
theorem dX8_next_20 : decode cX8_next 20 = .ok (.ireturn, 1) := by decide +kernel
theorem dX8_next_21 : decode cX8_next 21 = .ok (.iload_n 2, 1) := by decide +kernel
theorem dX8_next_22 : decode cX8_next 22 = .ok (.iload_n 2, 1) := by decide +kernel
theorem dX8_next_23 : decode cX8_next 23 = .ok (.invokestatic 190, 3) := by decide +kernel
theorem dX8_next_26 : decode cX8_next 26 = .ok (.aload_n 3, 1) := by decide +kernel
theorem dX8_next_27 : decode cX8_next 27 = .ok (.getfield 133, 3) := by decide +kernel
theorem dX8_next_30 : decode cX8_next 30 = .ok (.invokestatic 183, 3) := by decide +kernel
theorem dX8_next_33 : decode cX8_next 33 = .ok (.ireturn, 1) := by decide +kernel
theorem dX8_apart_0 : decode cX8_apart 0 = .ok (.aload_n 0, 1) := by decide +kernel
theorem dX8_apart_1 : decode cX8_apart 1 = .ok (.iload_n 1, 1) := by decide +kernel
theorem dX8_apart_2 : decode cX8_apart 2 = .ok (.invokevirtual 102, 3) := by decide +kernel
theorem dX8_apart_5 : decode cX8_apart 5 = .ok (.astore_n 3, 1) := by decide +kernel
theorem dX8_apart_6 : decode cX8_apart 6 = .ok (.aload_n 3, 1) := by decide +kernel
theorem dX8_apart_7 : decode cX8_apart 7 = .ok (.ifnull 8, 3) := by decide +kernel
theorem dX8_apart_10 : decode cX8_apart 10 = .ok (.iload_n 2, 1) := by decide +kernel
theorem dX8_apart_11 : decode cX8_apart 11 = .ok (.iconst (-1), 1) := by decide +kernel
theorem dX8_apart_12 : decode cX8_apart 12 = .ok (.if_icmp .ge 6, 3) := by decide +kernel
theorem dX8_apart_15 : decode cX8_apart 15 = .ok (.bipush (-2), 2) := by decide +kernel
theorem dX8_apart_17 : decode cX8_apart 17 = .ok (.ireturn, 1) := by decide +kernel
theorem dX8_apart_18 : decode cX8_apart 18 = .ok (.aload_n 0, 1) := by decide +kernel
theorem dX8_apart_19 : decode cX8_apart 19 = .ok (.aload_n 3, 1) := by decide +kernel
theorem dX8_apart_20 : decode cX8_apart 20 = .ok (.iload_n 2, 1) := by decide +kernel
theorem dX8_apart_21 : decode cX8_apart 21 = .ok (.invokevirtual 319, 3) := by decide +kernel
theorem dX8_apart_24 : decode cX8_apart 24 = .ok (.ireturn, 1) := by decide +kernel
theorem dX8_covers_0 : decode cX8_covers 0 = .ok (.aload_n 0, 1) := by decide +kernel
theorem dX8_covers_1 : decode cX8_covers 1 = .ok (.iload_n 1, 1) := by decide +kernel
theorem dX8_covers_2 : decode cX8_covers 2 = .ok (.invokevirtual 102, 3) := by decide +kernel
theorem dX8_covers_5 : decode cX8_covers 5 = .ok (.astore_n 3, 1) := by decide +kernel
theorem dX8_covers_6 : decode cX8_covers 6 = .ok (.aload_n 3, 1) := by decide +kernel
theorem dX8_covers_7 : decode cX8_covers 7 = .ok (.ifnull 8, 3) := by decide +kernel
theorem dX8_covers_10 : decode cX8_covers 10 = .ok (.iload_n 2, 1) := by decide +kernel
theorem dX8_covers_11 : decode cX8_covers 11 = .ok (.iconst (-1), 1) := by decide +kernel
theorem dX8_covers_12 : decode cX8_covers 12 = .ok (.if_icmp .ge 6, 3) := by decide +kernel
theorem dX8_covers_15 : decode cX8_covers 15 = .ok (.bipush (-2), 2) := by decide +kernel
theorem dX8_covers_17 : decode cX8_covers 17 = .ok (.ireturn, 1) := by decide +kernel
theorem dX8_covers_18 : decode cX8_covers 18 = .ok (.aload_n 0, 1) := by decide +kernel
theorem dX8_covers_19 : decode cX8_covers 19 = .ok (.getfield 16, 3) := by decide +kernel
theorem dX8_covers_22 : decode cX8_covers 22 = .ok (.aload_n 3, 1) := by decide +kernel
theorem dX8_covers_23 : decode cX8_covers 23 = .ok (.invokevirtual 218, 3) := by decide +kernel
theorem dX8_covers_26 : decode cX8_covers 26 = .ok (.iload_n 2, 1) := by decide +kernel
theorem dX8_covers_27 : decode cX8_covers 27 = .ok (.iconst (-1), 1) := by decide +kernel
theorem dX8_covers_28 : decode cX8_covers 28 = .ok (.if_icmp .ne 13, 3) := by decide +kernel
theorem dX8_covers_31 : decode cX8_covers 31 = .ok (.aload_n 0, 1) := by decide +kernel
theorem dX8_covers_32 : decode cX8_covers 32 = .ok (.getfield 16, 3) := by decide +kernel
theorem dX8_covers_35 : decode cX8_covers 35 = .ok (.invokevirtual 236, 3) := by decide +kernel
theorem dX8_covers_38 : decode cX8_covers 38 = .ok (.goto 11, 3) := by decide +kernel
theorem dX8_covers_41 : decode cX8_covers 41 = .ok (.aload_n 0, 1) := by decide +kernel
theorem dX8_covers_42 : decode cX8_covers 42 = .ok (.getfield 16, 3) := by decide +kernel
theorem dX8_covers_45 : decode cX8_covers 45 = .ok (.iload_n 2, 1) := by decide +kernel
theorem dX8_covers_46 : decode cX8_covers 46 = .ok (.invokevirtual 113, 3) := by decide +kernel
theorem dX8_covers_49 : decode cX8_covers 49 = .ok (.ireturn, 1) := by decide +kernel
theorem dX8_height_0 : decode cX8_height 0 = .ok (.aload_n 0, 1) := by decide +kernel
theorem dX8_height_1 : decode cX8_height 1 = .ok (.iload_n 1, 1) := by decide +kernel
theorem dX8_height_2 : decode cX8_height 2 = .ok (.invokevirtual 102, 3) := by decide +kernel
theorem dX8_height_5 : decode cX8_height 5 = .ok (.astore_n 3, 1) := by decide +kernel
theorem dX8_height_6 : decode cX8_height 6 = .ok (.aload_n 3, 1) := by decide +kernel
theorem dX8_height_7 : decode cX8_height 7 = .ok (.ifnull 11, 3) := by decide +kernel
theorem dX8_height_10 : decode cX8_height 10 = .ok (.aload_n 3, 1) := by decide +kernel
theorem dX8_height_11 : decode cX8_height 11 = .ok (.iload_n 2, 1) := by decide +kernel
theorem dX8_height_12 : decode cX8_height 12 = .ok (.invokevirtual 117, 3) := by decide +kernel
theorem dX8_height_15 : decode cX8_height 15 = .ok (.ifCond .ne 6, 3) := by decide +kernel
theorem dX8_height_18 : decode cX8_height 18 = .ok (.bipush (-2), 2) := by decide +kernel
theorem dX8_height_20 : decode cX8_height 20 = .ok (.ireturn, 1) := by decide +kernel
theorem dX8_height_21 : decode cX8_height 21 = .ok (.aload_n 3, 1) := by decide +kernel
theorem dX8_height_22 : decode cX8_height 22 = .ok (.iload_n 2, 1) := by decide +kernel
theorem dX8_height_23 : decode cX8_height 23 = .ok (.invokevirtual 120, 3) := by decide +kernel
theorem dX8_height_26 : decode cX8_height 26 = .ok (.ifCond .eq 12, 3) := by decide +kernel
theorem dX8_height_29 : decode cX8_height 29 = .ok (.aload_n 0, 1) := by decide +kernel
theorem dX8_height_30 : decode cX8_height 30 = .ok (.aload_n 3, 1) := by decide +kernel
theorem dX8_height_31 : decode cX8_height 31 = .ok (.iload_n 2, 1) := by decide +kernel
theorem dX8_height_32 : decode cX8_height 32 = .ok (.invokevirtual 322, 3) := by decide +kernel
theorem dX8_height_35 : decode cX8_height 35 = .ok (.goto 5, 3) := by decide +kernel
theorem dX8_height_38 : decode cX8_height 38 = .ok (.bipush (-6), 2) := by decide +kernel
theorem dX8_height_40 : decode cX8_height 40 = .ok (.ireturn, 1) := by decide +kernel
theorem dX8_trace_0 : decode cX8_trace 0 = .ok (.aload_n 0, 1) := by decide +kernel
theorem dX8_trace_1 : decode cX8_trace 1 = .ok (.iload_n 1, 1) := by decide +kernel
theorem dX8_trace_2 : decode cX8_trace 2 = .ok (.invokevirtual 102, 3) := by decide +kernel
theorem dX8_trace_5 : decode cX8_trace 5 = .ok (.astore 4, 2) := by decide +kernel
theorem dX8_trace_7 : decode cX8_trace 7 = .ok (.aload 4, 2) := by decide +kernel
theorem dX8_trace_9 : decode cX8_trace 9 = .ok (.ifnull 19, 3) := by decide +kernel
theorem dX8_trace_12 : decode cX8_trace 12 = .ok (.aload 4, 2) := by decide +kernel
theorem dX8_trace_14 : decode cX8_trace 14 = .ok (.iload_n 2, 1) := by decide +kernel
theorem dX8_trace_15 : decode cX8_trace 15 = .ok (.invokevirtual 117, 3) := by decide +kernel
theorem dX8_trace_18 : decode cX8_trace 18 = .ok (.ifCond .eq 10, 3) := by decide +kernel
theorem dX8_trace_21 : decode cX8_trace 21 = .ok (.iload_n 3, 1) := by decide +kernel
theorem dX8_trace_22 : decode cX8_trace 22 = .ok (.invokestatic 77, 3) := by decide +kernel
theorem dX8_trace_25 : decode cX8_trace 25 = .ok (.ifCond .ne 6, 3) := by decide +kernel
theorem dX8_trace_28 : decode cX8_trace 28 = .ok (.bipush (-2), 2) := by decide +kernel
theorem dX8_trace_30 : decode cX8_trace 30 = .ok (.ireturn, 1) := by decide +kernel
theorem dX8_trace_31 : decode cX8_trace 31 = .ok (.aload_n 0, 1) := by decide +kernel
theorem dX8_trace_32 : decode cX8_trace 32 = .ok (.getfield 16, 3) := by decide +kernel
theorem dX8_trace_35 : decode cX8_trace 35 = .ok (.aload 4, 2) := by decide +kernel
theorem dX8_trace_37 : decode cX8_trace 37 = .ok (.invokevirtual 152, 3) := by decide +kernel
theorem dX8_trace_40 : decode cX8_trace 40 = .ok (.aload_n 0, 1) := by decide +kernel
theorem dX8_trace_41 : decode cX8_trace 41 = .ok (.getfield 16, 3) := by decide +kernel
theorem dX8_trace_44 : decode cX8_trace 44 = .ok (.iload_n 2, 1) := by decide +kernel
theorem dX8_trace_45 : decode cX8_trace 45 = .ok (.invokevirtual 325, 3) := by decide +kernel
theorem dX8_trace_48 : decode cX8_trace 48 = .ok (.aload_n 0, 1) := by decide +kernel
theorem dX8_trace_49 : decode cX8_trace 49 = .ok (.iload_n 3, 1) := by decide +kernel
theorem dX8_trace_50 : decode cX8_trace 50 = .ok (.aload_n 0, 1) := by decide +kernel
theorem dX8_trace_51 : decode cX8_trace 51 = .ok (.getfield 16, 3) := by decide +kernel
theorem dX8_trace_54 : decode cX8_trace 54 = .ok (.invokevirtual 84, 3) := by decide +kernel
theorem dX8_trace_57 : decode cX8_trace 57 = .ok (.ireturn, 1) := by decide +kernel
theorem dX8_joint_0 : decode cX8_joint 0 = .ok (.aload_n 0, 1) := by decide +kernel
theorem dX8_joint_1 : decode cX8_joint 1 = .ok (.iload_n 1, 1) := by decide +kernel
theorem dX8_joint_2 : decode cX8_joint 2 = .ok (.invokevirtual 102, 3) := by decide +kernel
theorem dX8_joint_5 : decode cX8_joint 5 = .ok (.astore 5, 2) := by decide +kernel
theorem dX8_joint_7 : decode cX8_joint 7 = .ok (.aload_n 0, 1) := by decide +kernel
theorem dX8_joint_8 : decode cX8_joint 8 = .ok (.iload_n 2, 1) := by decide +kernel
theorem dX8_joint_9 : decode cX8_joint 9 = .ok (.invokevirtual 102, 3) := by decide +kernel
theorem dX8_joint_12 : decode cX8_joint 12 = .ok (.astore 6, 2) := by decide +kernel
theorem dX8_joint_14 : decode cX8_joint 14 = .ok (.aload 5, 2) := by decide +kernel
theorem dX8_joint_16 : decode cX8_joint 16 = .ok (.ifnull 25, 3) := by decide +kernel
theorem dX8_joint_19 : decode cX8_joint 19 = .ok (.aload 6, 2) := by decide +kernel
theorem dX8_joint_21 : decode cX8_joint 21 = .ok (.ifnull 20, 3) := by decide +kernel
theorem dX8_joint_24 : decode cX8_joint 24 = .ok (.iload_n 3, 1) := by decide +kernel
theorem dX8_joint_25 : decode cX8_joint 25 = .ok (.ifCond .lt 16, 3) := by decide +kernel
theorem dX8_joint_28 : decode cX8_joint 28 = .ok (.iload_n 3, 1) := by decide +kernel
theorem dX8_joint_29 : decode cX8_joint 29 = .ok (.iconst 3, 1) := by decide +kernel
theorem dX8_joint_30 : decode cX8_joint 30 = .ok (.if_icmp .gt 11, 3) := by decide +kernel
theorem dX8_joint_33 : decode cX8_joint 33 = .ok (.iload 4, 2) := by decide +kernel
theorem dX8_joint_35 : decode cX8_joint 35 = .ok (.invokestatic 77, 3) := by decide +kernel
theorem dX8_joint_38 : decode cX8_joint 38 = .ok (.ifCond .ne 6, 3) := by decide +kernel
theorem dX8_joint_41 : decode cX8_joint 41 = .ok (.bipush (-2), 2) := by decide +kernel
theorem dX8_joint_43 : decode cX8_joint 43 = .ok (.ireturn, 1) := by decide +kernel
theorem dX8_joint_44 : decode cX8_joint 44 = .ok (.aload 5, 2) := by decide +kernel
theorem dX8_joint_46 : decode cX8_joint 46 = .ok (.getfield 133, 3) := by decide +kernel
theorem dX8_joint_49 : decode cX8_joint 49 = .ok (.aload 6, 2) := by decide +kernel
theorem dX8_joint_51 : decode cX8_joint 51 = .ok (.getfield 133, 3) := by decide +kernel
theorem dX8_joint_54 : decode cX8_joint 54 = .ok (.if_icmp .eq 6, 3) := by decide +kernel
theorem dX8_joint_57 : decode cX8_joint 57 = .ok (.bipush (-6), 2) := by decide +kernel
theorem dX8_joint_59 : decode cX8_joint 59 = .ok (.ireturn, 1) := by decide +kernel
theorem dX8_joint_60 : decode cX8_joint 60 = .ok (.aload_n 0, 1) := by decide +kernel
theorem dX8_joint_61 : decode cX8_joint 61 = .ok (.getfield 16, 3) := by decide +kernel
theorem dX8_joint_64 : decode cX8_joint 64 = .ok (.aload 5, 2) := by decide +kernel
theorem dX8_joint_66 : decode cX8_joint 66 = .ok (.invokevirtual 152, 3) := by decide +kernel
theorem dX8_joint_69 : decode cX8_joint 69 = .ok (.iload_n 3, 1) := by decide +kernel
theorem dX8_joint_70 : decode cX8_joint 70 = .ok (.tableswitch 62 0 2 #[26, 38, 50], 26) := by decide +kernel
theorem dX8_joint_96 : decode cX8_joint 96 = .ok (.aload_n 0, 1) := by decide +kernel
theorem dX8_joint_97 : decode cX8_joint 97 = .ok (.getfield 16, 3) := by decide +kernel
theorem dX8_joint_100 : decode cX8_joint 100 = .ok (.aload 6, 2) := by decide +kernel
theorem dX8_joint_102 : decode cX8_joint 102 = .ok (.invokevirtual 286, 3) := by decide +kernel
theorem dX8_joint_105 : decode cX8_joint 105 = .ok (.goto 35, 3) := by decide +kernel
theorem dX8_joint_108 : decode cX8_joint 108 = .ok (.aload_n 0, 1) := by decide +kernel
theorem dX8_joint_109 : decode cX8_joint 109 = .ok (.getfield 16, 3) := by decide +kernel
theorem dX8_joint_112 : decode cX8_joint 112 = .ok (.aload 6, 2) := by decide +kernel
theorem dX8_joint_114 : decode cX8_joint 114 = .ok (.invokevirtual 283, 3) := by decide +kernel
theorem dX8_joint_117 : decode cX8_joint 117 = .ok (.goto 23, 3) := by decide +kernel
theorem dX8_joint_120 : decode cX8_joint 120 = .ok (.aload_n 0, 1) := by decide +kernel
theorem dX8_joint_121 : decode cX8_joint 121 = .ok (.getfield 16, 3) := by decide +kernel
theorem dX8_joint_124 : decode cX8_joint 124 = .ok (.aload 6, 2) := by decide +kernel
theorem dX8_joint_126 : decode cX8_joint 126 = .ok (.invokevirtual 310, 3) := by decide +kernel
theorem dX8_joint_129 : decode cX8_joint 129 = .ok (.goto 11, 3) := by decide +kernel
theorem dX8_joint_132 : decode cX8_joint 132 = .ok (.aload_n 0, 1) := by decide +kernel
theorem dX8_joint_133 : decode cX8_joint 133 = .ok (.aload 5, 2) := by decide +kernel
theorem dX8_joint_135 : decode cX8_joint 135 = .ok (.aload 6, 2) := by decide +kernel
theorem dX8_joint_137 : decode cX8_joint 137 = .ok (.invokevirtual 328, 3) := by decide +kernel
theorem dX8_joint_140 : decode cX8_joint 140 = .ok (.aload_n 0, 1) := by decide +kernel
theorem dX8_joint_141 : decode cX8_joint 141 = .ok (.iload 4, 2) := by decide +kernel
theorem dX8_joint_143 : decode cX8_joint 143 = .ok (.aload_n 0, 1) := by decide +kernel
theorem dX8_joint_144 : decode cX8_joint 144 = .ok (.getfield 16, 3) := by decide +kernel
theorem dX8_joint_147 : decode cX8_joint 147 = .ok (.invokevirtual 84, 3) := by decide +kernel
theorem dX8_joint_150 : decode cX8_joint 150 = .ok (.ireturn, 1) := by decide +kernel
theorem dX8_rank_0 : decode cX8_rank 0 = .ok (.iload_n 1, 1) := by decide +kernel
theorem dX8_rank_1 : decode cX8_rank 1 = .ok (.ifCond .lt 10, 3) := by decide +kernel
theorem dX8_rank_4 : decode cX8_rank 4 = .ok (.iload_n 1, 1) := by decide +kernel
theorem dX8_rank_5 : decode cX8_rank 5 = .ok (.sipush 128, 3) := by decide +kernel
theorem dX8_rank_8 : decode cX8_rank 8 = .ok (.if_icmp .lt 6, 3) := by decide +kernel
theorem dX8_rank_11 : decode cX8_rank 11 = .ok (.bipush (-2), 2) := by decide +kernel
theorem dX8_rank_13 : decode cX8_rank 13 = .ok (.ireturn, 1) := by decide +kernel
theorem dX8_rank_14 : decode cX8_rank 14 = .ok (.iconst 0, 1) := by decide +kernel
theorem dX8_rank_15 : decode cX8_rank 15 = .ok (.istore_n 2, 1) := by decide +kernel
theorem dX8_rank_16 : decode cX8_rank 16 = .ok (.iconst 0, 1) := by decide +kernel
theorem dX8_rank_17 : decode cX8_rank 17 = .ok (.istore_n 3, 1) := by decide +kernel
theorem dX8_rank_18 : decode cX8_rank 18 = .ok (.iload_n 3, 1) := by decide +kernel
theorem dX8_rank_19 : decode cX8_rank 19 = .ok (.iload_n 1, 1) := by decide +kernel
theorem dX8_rank_20 : decode cX8_rank 20 = .ok (.if_icmp .ge 23, 3) := by decide +kernel
theorem dX8_rank_23 : decode cX8_rank 23 = .ok (.iload_n 3, 1) := by decide +kernel
theorem dX8_rank_24 : decode cX8_rank 24 = .ok (.invokestatic 190, 3) := by decide +kernel
theorem dX8_rank_27 : decode cX8_rank 27 = .ok (.iload_n 1, 1) := by decide +kernel
theorem dX8_rank_28 : decode cX8_rank 28 = .ok (.invokestatic 190, 3) := by decide +kernel
theorem dX8_rank_31 : decode cX8_rank 31 = .ok (.if_icmp .ne 6, 3) := by decide +kernel
theorem dX8_rank_34 : decode cX8_rank 34 = .ok (.iinc 2 1, 3) := by decide +kernel
theorem dX8_rank_37 : decode cX8_rank 37 = .ok (.iinc 3 1, 3) := by decide +kernel
theorem dX8_rank_40 : decode cX8_rank 40 = .ok (.goto (-22), 3) := by decide +kernel
theorem dX8_rank_43 : decode cX8_rank 43 = .ok (.iload_n 2, 1) := by decide +kernel
theorem dX8_rank_44 : decode cX8_rank 44 = .ok (.ireturn, 1) := by decide +kernel
theorem dX8_ranked_0 : decode cX8_ranked 0 = .ok (.iload_n 1, 1) := by decide +kernel
theorem dX8_ranked_1 : decode cX8_ranked 1 = .ok (.ifCond .lt 13, 3) := by decide +kernel
theorem dX8_ranked_4 : decode cX8_ranked 4 = .ok (.iload_n 1, 1) := by decide +kernel
theorem dX8_ranked_5 : decode cX8_ranked 5 = .ok (.bipush 7, 2) := by decide +kernel
theorem dX8_ranked_7 : decode cX8_ranked 7 = .ok (.if_icmp .gt 7, 3) := by decide +kernel
theorem dX8_ranked_10 : decode cX8_ranked 10 = .ok (.iload_n 2, 1) := by decide +kernel
theorem dX8_ranked_11 : decode cX8_ranked 11 = .ok (.ifCond .ge 6, 3) := by decide +kernel
theorem dX8_ranked_14 : decode cX8_ranked 14 = .ok (.bipush (-2), 2) := by decide +kernel
theorem dX8_ranked_16 : decode cX8_ranked 16 = .ok (.ireturn, 1) := by decide +kernel
theorem dX8_ranked_17 : decode cX8_ranked 17 = .ok (.iconst 0, 1) := by decide +kernel
theorem dX8_ranked_18 : decode cX8_ranked 18 = .ok (.istore_n 3, 1) := by decide +kernel
theorem dX8_ranked_19 : decode cX8_ranked 19 = .ok (.iconst 0, 1) := by decide +kernel
theorem dX8_ranked_20 : decode cX8_ranked 20 = .ok (.istore 4, 2) := by decide +kernel
theorem dX8_ranked_22 : decode cX8_ranked 22 = .ok (.iload 4, 2) := by decide +kernel
theorem dX8_ranked_24 : decode cX8_ranked 24 = .ok (.sipush 128, 3) := by decide +kernel
theorem dX8_ranked_27 : decode cX8_ranked 27 = .ok (.if_icmp .ge 29, 3) := by decide +kernel
theorem dX8_ranked_30 : decode cX8_ranked 30 = .ok (.iload 4, 2) := by decide +kernel
theorem dX8_ranked_32 : decode cX8_ranked 32 = .ok (.invokestatic 190, 3) := by decide +kernel
theorem dX8_ranked_35 : decode cX8_ranked 35 = .ok (.iload_n 1, 1) := by decide +kernel
theorem dX8_ranked_36 : decode cX8_ranked 36 = .ok (.if_icmp .ne 14, 3) := by decide +kernel
theorem dX8_ranked_39 : decode cX8_ranked 39 = .ok (.iload_n 3, 1) := by decide +kernel
theorem dX8_ranked_40 : decode cX8_ranked 40 = .ok (.iload_n 2, 1) := by decide +kernel
theorem dX8_ranked_41 : decode cX8_ranked 41 = .ok (.if_icmp .ne 6, 3) := by decide +kernel
theorem dX8_ranked_44 : decode cX8_ranked 44 = .ok (.iload 4, 2) := by decide +kernel
theorem dX8_ranked_46 : decode cX8_ranked 46 = .ok (.ireturn, 1) := by decide +kernel
theorem dX8_ranked_47 : decode cX8_ranked 47 = .ok (.iinc 3 1, 3) := by decide +kernel
theorem dX8_ranked_50 : decode cX8_ranked 50 = .ok (.iinc 4 1, 3) := by decide +kernel
theorem dX8_ranked_53 : decode cX8_ranked 53 = .ok (.goto (-31), 3) := by decide +kernel
theorem dX8_ranked_56 : decode cX8_ranked 56 = .ok (.iconst (-1), 1) := by decide +kernel
theorem dX8_ranked_57 : decode cX8_ranked 57 = .ok (.ireturn, 1) := by decide +kernel
theorem dX8_isSlot_0 : decode cX8_isSlot 0 = .ok (.iload_n 0, 1) := by decide +kernel
theorem dX8_isSlot_1 : decode cX8_isSlot 1 = .ok (.ifCond .lt 12, 3) := by decide +kernel
theorem dX8_isSlot_4 : decode cX8_isSlot 4 = .ok (.iload_n 0, 1) := by decide +kernel
theorem dX8_isSlot_5 : decode cX8_isSlot 5 = .ok (.iconst 3, 1) := by decide +kernel
theorem dX8_isSlot_6 : decode cX8_isSlot 6 = .ok (.if_icmp .ge 7, 3) := by decide +kernel
theorem dX8_isSlot_9 : decode cX8_isSlot 9 = .ok (.iconst 1, 1) := by decide +kernel
theorem dX8_isSlot_10 : decode cX8_isSlot 10 = .ok (.goto 4, 3) := by decide +kernel
theorem dX8_isSlot_13 : decode cX8_isSlot 13 = .ok (.iconst 0, 1) := by decide +kernel
theorem dX8_isSlot_14 : decode cX8_isSlot 14 = .ok (.ireturn, 1) := by decide +kernel
theorem dX8_isPointCount_0 : decode cX8_isPointCount 0 = .ok (.iload_n 0, 1) := by decide +kernel
theorem dX8_isPointCount_1 : decode cX8_isPointCount 1 = .ok (.iconst 1, 1) := by decide +kernel
theorem dX8_isPointCount_2 : decode cX8_isPointCount 2 = .ok (.if_icmp .lt 13, 3) := by decide +kernel
theorem dX8_isPointCount_5 : decode cX8_isPointCount 5 = .ok (.iload_n 0, 1) := by decide +kernel
theorem dX8_isPointCount_6 : decode cX8_isPointCount 6 = .ok (.bipush 7, 2) := by decide +kernel
theorem dX8_isPointCount_8 : decode cX8_isPointCount 8 = .ok (.if_icmp .gt 7, 3) := by decide +kernel
theorem dX8_isPointCount_11 : decode cX8_isPointCount 11 = .ok (.iconst 1, 1) := by decide +kernel
theorem dX8_isPointCount_12 : decode cX8_isPointCount 12 = .ok (.goto 4, 3) := by decide +kernel
theorem dX8_isPointCount_15 : decode cX8_isPointCount 15 = .ok (.iconst 0, 1) := by decide +kernel
theorem dX8_isPointCount_16 : decode cX8_isPointCount 16 = .ok (.ireturn, 1) := by decide +kernel
theorem dX8_isLookable_0 : decode cX8_isLookable 0 = .ok (.iload_n 0, 1) := by decide +kernel
theorem dX8_isLookable_1 : decode cX8_isLookable 1 = .ok (.ifCond .lt 13, 3) := by decide +kernel
theorem dX8_isLookable_4 : decode cX8_isLookable 4 = .ok (.iload_n 0, 1) := by decide +kernel
theorem dX8_isLookable_5 : decode cX8_isLookable 5 = .ok (.bipush 6, 2) := by decide +kernel
theorem dX8_isLookable_7 : decode cX8_isLookable 7 = .ok (.if_icmp .gt 7, 3) := by decide +kernel
theorem dX8_isLookable_10 : decode cX8_isLookable 10 = .ok (.iconst 1, 1) := by decide +kernel
theorem dX8_isLookable_11 : decode cX8_isLookable 11 = .ok (.goto 4, 3) := by decide +kernel
theorem dX8_isLookable_14 : decode cX8_isLookable 14 = .ok (.iconst 0, 1) := by decide +kernel
theorem dX8_isLookable_15 : decode cX8_isLookable 15 = .ok (.ireturn, 1) := by decide +kernel
theorem dX8_isTries_0 : decode cX8_isTries 0 = .ok (.iload_n 0, 1) := by decide +kernel
theorem dX8_isTries_1 : decode cX8_isTries 1 = .ok (.iconst 1, 1) := by decide +kernel
theorem dX8_isTries_2 : decode cX8_isTries 2 = .ok (.if_icmp .lt 14, 3) := by decide +kernel
theorem dX8_isTries_5 : decode cX8_isTries 5 = .ok (.iload_n 0, 1) := by decide +kernel
theorem dX8_isTries_6 : decode cX8_isTries 6 = .ok (.ldc_w 332, 3) := by decide +kernel
theorem dX8_isTries_9 : decode cX8_isTries 9 = .ok (.if_icmp .gt 7, 3) := by decide +kernel
theorem dX8_isTries_12 : decode cX8_isTries 12 = .ok (.iconst 1, 1) := by decide +kernel
theorem dX8_isTries_13 : decode cX8_isTries 13 = .ok (.goto 4, 3) := by decide +kernel
theorem dX8_isTries_16 : decode cX8_isTries 16 = .ok (.iconst 0, 1) := by decide +kernel
theorem dX8_isTries_17 : decode cX8_isTries 17 = .ok (.ireturn, 1) := by decide +kernel
theorem dX8_isSearch_0 : decode cX8_isSearch 0 = .ok (.iload_n 0, 1) := by decide +kernel
theorem dX8_isSearch_1 : decode cX8_isSearch 1 = .ok (.ifCond .lt 19, 3) := by decide +kernel
theorem dX8_isSearch_4 : decode cX8_isSearch 4 = .ok (.iload_n 0, 1) := by decide +kernel
theorem dX8_isSearch_5 : decode cX8_isSearch 5 = .ok (.iconst 3, 1) := by decide +kernel
theorem dX8_isSearch_6 : decode cX8_isSearch 6 = .ok (.if_icmp .gt 14, 3) := by decide +kernel
theorem dX8_isSearch_9 : decode cX8_isSearch 9 = .ok (.iload_n 1, 1) := by decide +kernel
theorem dX8_isSearch_10 : decode cX8_isSearch 10 = .ok (.invokestatic 227, 3) := by decide +kernel
theorem dX8_isSearch_13 : decode cX8_isSearch 13 = .ok (.ifCond .eq 7, 3) := by decide +kernel
theorem dX8_isSearch_16 : decode cX8_isSearch 16 = .ok (.iconst 1, 1) := by decide +kernel
theorem dX8_isSearch_17 : decode cX8_isSearch 17 = .ok (.goto 4, 3) := by decide +kernel
theorem dX8_isSearch_20 : decode cX8_isSearch 20 = .ok (.iconst 0, 1) := by decide +kernel
theorem dX8_isSearch_21 : decode cX8_isSearch 21 = .ok (.ireturn, 1) := by decide +kernel
theorem dX8_isRowSize_0 : decode cX8_isRowSize 0 = .ok (.iload_n 0, 1) := by decide +kernel
theorem dX8_isRowSize_1 : decode cX8_isRowSize 1 = .ok (.ifCond .lt 25, 3) := by decide +kernel
theorem dX8_isRowSize_4 : decode cX8_isRowSize 4 = .ok (.iload_n 0, 1) := by decide +kernel
theorem dX8_isRowSize_5 : decode cX8_isRowSize 5 = .ok (.ldc_w 333, 3) := by decide +kernel
theorem dX8_isRowSize_8 : decode cX8_isRowSize 8 = .ok (.if_icmp .gt 18, 3) := by decide +kernel
theorem dX8_isRowSize_11 : decode cX8_isRowSize 11 = .ok (.iload_n 1, 1) := by decide +kernel
theorem dX8_isRowSize_12 : decode cX8_isRowSize 12 = .ok (.iconst 1, 1) := by decide +kernel
theorem dX8_isRowSize_13 : decode cX8_isRowSize 13 = .ok (.if_icmp .lt 13, 3) := by decide +kernel
theorem dX8_isRowSize_16 : decode cX8_isRowSize 16 = .ok (.iload_n 1, 1) := by decide +kernel
theorem dX8_isRowSize_17 : decode cX8_isRowSize 17 = .ok (.bipush 7, 2) := by decide +kernel
theorem dX8_isRowSize_19 : decode cX8_isRowSize 19 = .ok (.if_icmp .gt 7, 3) := by decide +kernel
theorem dX8_isRowSize_22 : decode cX8_isRowSize 22 = .ok (.iconst 1, 1) := by decide +kernel
theorem dX8_isRowSize_23 : decode cX8_isRowSize 23 = .ok (.goto 4, 3) := by decide +kernel
theorem dX8_isRowSize_26 : decode cX8_isRowSize 26 = .ok (.iconst 0, 1) := by decide +kernel
theorem dX8_isRowSize_27 : decode cX8_isRowSize 27 = .ok (.ireturn, 1) := by decide +kernel
theorem dX8_isShift_0 : decode cX8_isShift 0 = .ok (.aload_n 0, 1) := by decide +kernel
theorem dX8_isShift_1 : decode cX8_isShift 1 = .ok (.iload_n 1, 1) := by decide +kernel
theorem dX8_isShift_2 : decode cX8_isShift 2 = .ok (.invokevirtual 127, 3) := by decide +kernel
theorem dX8_isShift_5 : decode cX8_isShift 5 = .ok (.ifCond .eq 20, 3) := by decide +kernel
theorem dX8_isShift_8 : decode cX8_isShift 8 = .ok (.aload_n 0, 1) := by decide +kernel
theorem dX8_isShift_9 : decode cX8_isShift 9 = .ok (.iload_n 2, 1) := by decide +kernel
theorem dX8_isShift_10 : decode cX8_isShift 10 = .ok (.invokevirtual 127, 3) := by decide +kernel
theorem dX8_isShift_13 : decode cX8_isShift 13 = .ok (.ifCond .eq 12, 3) := by decide +kernel
theorem dX8_isShift_16 : decode cX8_isShift 16 = .ok (.iload_n 1, 1) := by decide +kernel
theorem dX8_isShift_17 : decode cX8_isShift 17 = .ok (.iload_n 2, 1) := by decide +kernel
theorem dX8_isShift_18 : decode cX8_isShift 18 = .ok (.if_icmp .ge 7, 3) := by decide +kernel
theorem dX8_isShift_21 : decode cX8_isShift 21 = .ok (.iconst 1, 1) := by decide +kernel
theorem dX8_isShift_22 : decode cX8_isShift 22 = .ok (.goto 4, 3) := by decide +kernel
theorem dX8_isShift_25 : decode cX8_isShift 25 = .ok (.iconst 0, 1) := by decide +kernel
theorem dX8_isShift_26 : decode cX8_isShift 26 = .ok (.ireturn, 1) := by decide +kernel
theorem dX8_familyAt_0 : decode cX8_familyAt 0 = .ok (.iload_n 1, 1) := by decide +kernel
theorem dX8_familyAt_1 : decode cX8_familyAt 1 = .ok (.invokestatic 77, 3) := by decide +kernel
theorem dX8_familyAt_4 : decode cX8_familyAt 4 = .ok (.ifCond .ne 5, 3) := by decide +kernel
theorem dX8_familyAt_7 : decode cX8_familyAt 7 = .ok (.aconst_null, 1) := by decide +kernel
theorem dX8_familyAt_8 : decode cX8_familyAt 8 = .ok (.areturn, 1) := by decide +kernel
theorem dX8_familyAt_9 : decode cX8_familyAt 9 = .ok (.aload_n 0, 1) := by decide +kernel
theorem dX8_familyAt_10 : decode cX8_familyAt 10 = .ok (.getfield 11, 3) := by decide +kernel
theorem dX8_familyAt_13 : decode cX8_familyAt 13 = .ok (.iload_n 1, 1) := by decide +kernel
theorem dX8_familyAt_14 : decode cX8_familyAt 14 = .ok (.aaload, 1) := by decide +kernel
theorem dX8_familyAt_15 : decode cX8_familyAt 15 = .ok (.astore_n 2, 1) := by decide +kernel
theorem dX8_familyAt_16 : decode cX8_familyAt 16 = .ok (.aload_n 2, 1) := by decide +kernel
theorem dX8_familyAt_17 : decode cX8_familyAt 17 = .ok (.invokevirtual 334, 3) := by decide +kernel
theorem dX8_familyAt_20 : decode cX8_familyAt 20 = .ok (.ifCond .eq 7, 3) := by decide +kernel
theorem dX8_familyAt_23 : decode cX8_familyAt 23 = .ok (.aload_n 2, 1) := by decide +kernel
theorem dX8_familyAt_24 : decode cX8_familyAt 24 = .ok (.goto 4, 3) := by decide +kernel
theorem dX8_familyAt_27 : decode cX8_familyAt 27 = .ok (.aconst_null, 1) := by decide +kernel
theorem dX8_familyAt_28 : decode cX8_familyAt 28 = .ok (.areturn, 1) := by decide +kernel
theorem dX8_usedSlots_0 : decode cX8_usedSlots 0 = .ok (.iconst 0, 1) := by decide +kernel
theorem dX8_usedSlots_1 : decode cX8_usedSlots 1 = .ok (.istore_n 1, 1) := by decide +kernel
theorem dX8_usedSlots_2 : decode cX8_usedSlots 2 = .ok (.iconst 0, 1) := by decide +kernel
theorem dX8_usedSlots_3 : decode cX8_usedSlots 3 = .ok (.istore_n 2, 1) := by decide +kernel
theorem dX8_usedSlots_4 : decode cX8_usedSlots 4 = .ok (.iload_n 2, 1) := by decide +kernel
theorem dX8_usedSlots_5 : decode cX8_usedSlots 5 = .ok (.iconst 3, 1) := by decide +kernel
theorem dX8_usedSlots_6 : decode cX8_usedSlots 6 = .ok (.if_icmp .ge 27, 3) := by decide +kernel
theorem dX8_usedSlots_9 : decode cX8_usedSlots 9 = .ok (.aload_n 0, 1) := by decide +kernel
theorem dX8_usedSlots_10 : decode cX8_usedSlots 10 = .ok (.getfield 11, 3) := by decide +kernel
theorem dX8_usedSlots_13 : decode cX8_usedSlots 13 = .ok (.iload_n 2, 1) := by decide +kernel
theorem dX8_usedSlots_14 : decode cX8_usedSlots 14 = .ok (.aaload, 1) := by decide +kernel
theorem dX8_usedSlots_15 : decode cX8_usedSlots 15 = .ok (.invokevirtual 334, 3) := by decide +kernel
theorem dX8_usedSlots_18 : decode cX8_usedSlots 18 = .ok (.ifCond .eq 9, 3) := by decide +kernel
theorem dX8_usedSlots_21 : decode cX8_usedSlots 21 = .ok (.iload_n 1, 1) := by decide +kernel
theorem dX8_usedSlots_22 : decode cX8_usedSlots 22 = .ok (.iconst 1, 1) := by decide +kernel
theorem dX8_usedSlots_23 : decode cX8_usedSlots 23 = .ok (.iload_n 2, 1) := by decide +kernel
theorem dX8_usedSlots_24 : decode cX8_usedSlots 24 = .ok (.ishl, 1) := by decide +kernel
theorem dX8_usedSlots_25 : decode cX8_usedSlots 25 = .ok (.ior, 1) := by decide +kernel
theorem dX8_usedSlots_26 : decode cX8_usedSlots 26 = .ok (.istore_n 1, 1) := by decide +kernel
theorem dX8_usedSlots_27 : decode cX8_usedSlots 27 = .ok (.iinc 2 1, 3) := by decide +kernel
theorem dX8_usedSlots_30 : decode cX8_usedSlots 30 = .ok (.goto (-26), 3) := by decide +kernel
theorem dX8_usedSlots_33 : decode cX8_usedSlots 33 = .ok (.iload_n 1, 1) := by decide +kernel
theorem dX8_usedSlots_34 : decode cX8_usedSlots 34 = .ok (.ireturn, 1) := by decide +kernel
theorem dX8_comesInto_0 : decode cX8_comesInto 0 = .ok (.aload_n 0, 1) := by decide +kernel
theorem dX8_comesInto_1 : decode cX8_comesInto 1 = .ok (.getfield 11, 3) := by decide +kernel
theorem dX8_comesInto_4 : decode cX8_comesInto 4 = .ok (.iload_n 1, 1) := by decide +kernel
theorem dX8_comesInto_5 : decode cX8_comesInto 5 = .ok (.aaload, 1) := by decide +kernel
theorem dX8_comesInto_6 : decode cX8_comesInto 6 = .ok (.astore_n 3, 1) := by decide +kernel
theorem dX8_comesInto_7 : decode cX8_comesInto 7 = .ok (.aload_n 3, 1) := by decide +kernel
theorem dX8_comesInto_8 : decode cX8_comesInto 8 = .ok (.aload_n 2, 1) := by decide +kernel
theorem dX8_comesInto_9 : decode cX8_comesInto 9 = .ok (.invokevirtual 337, 3) := by decide +kernel
theorem dX8_comesInto_12 : decode cX8_comesInto 12 = .ok (.ifCond .ne 17, 3) := by decide +kernel
theorem dX8_comesInto_15 : decode cX8_comesInto 15 = .ok (.aload_n 0, 1) := by decide +kernel
theorem dX8_comesInto_16 : decode cX8_comesInto 16 = .ok (.getfield 47, 3) := by decide +kernel
theorem dX8_comesInto_19 : decode cX8_comesInto 19 = .ok (.iload_n 1, 1) := by decide +kernel
theorem dX8_comesInto_20 : decode cX8_comesInto 20 = .ok (.aload_n 3, 1) := by decide +kernel
theorem dX8_comesInto_21 : decode cX8_comesInto 21 = .ok (.invokevirtual 340, 3) := by decide +kernel
theorem dX8_comesInto_24 : decode cX8_comesInto 24 = .ok (.aload_n 3, 1) := by decide +kernel
theorem dX8_comesInto_25 : decode cX8_comesInto 25 = .ok (.aload_n 2, 1) := by decide +kernel
theorem dX8_comesInto_26 : decode cX8_comesInto 26 = .ok (.invokevirtual 152, 3) := by decide +kernel
theorem dX8_comesInto_29 : decode cX8_comesInto 29 = .ok (.aload_n 2, 1) := by decide +kernel
theorem dX8_comesInto_30 : decode cX8_comesInto 30 = .ok (.invokevirtual 236, 3) := by decide +kernel
theorem dX8_comesInto_33 : decode cX8_comesInto 33 = .ok (.ireturn, 1) := by decide +kernel
theorem dX8_measure_0 : decode cX8_measure 0 = .ok (.iload_n 2, 1) := by decide +kernel
theorem dX8_measure_1 : decode cX8_measure 1 = .ok (.tableswitch 69 0 5 #[39, 44, 49, 54, 59, 64], 39) := by decide +kernel
theorem dX8_measure_40 : decode cX8_measure 40 = .ok (.aload_n 1, 1) := by decide +kernel
theorem dX8_measure_41 : decode cX8_measure 41 = .ok (.getfield 133, 3) := by decide +kernel
theorem dX8_measure_44 : decode cX8_measure 44 = .ok (.ireturn, 1) := by decide +kernel
theorem dX8_measure_45 : decode cX8_measure 45 = .ok (.aload_n 1, 1) := by decide +kernel
theorem dX8_measure_46 : decode cX8_measure 46 = .ok (.invokevirtual 236, 3) := by decide +kernel
theorem dX8_measure_49 : decode cX8_measure 49 = .ok (.ireturn, 1) := by decide +kernel
theorem dX8_measure_50 : decode cX8_measure 50 = .ok (.aload_n 1, 1) := by decide +kernel
theorem dX8_measure_51 : decode cX8_measure 51 = .ok (.invokevirtual 221, 3) := by decide +kernel
theorem dX8_measure_54 : decode cX8_measure 54 = .ok (.ireturn, 1) := by decide +kernel
theorem dX8_measure_55 : decode cX8_measure 55 = .ok (.aload_n 1, 1) := by decide +kernel
theorem dX8_measure_56 : decode cX8_measure 56 = .ok (.invokevirtual 273, 3) := by decide +kernel
theorem dX8_measure_59 : decode cX8_measure 59 = .ok (.ireturn, 1) := by decide +kernel
theorem dX8_measure_60 : decode cX8_measure 60 = .ok (.aload_n 1, 1) := by decide +kernel
theorem dX8_measure_61 : decode cX8_measure 61 = .ok (.invokevirtual 344, 3) := by decide +kernel
theorem dX8_measure_64 : decode cX8_measure 64 = .ok (.ireturn, 1) := by decide +kernel
theorem dX8_measure_65 : decode cX8_measure 65 = .ok (.aload_n 1, 1) := by decide +kernel
theorem dX8_measure_66 : decode cX8_measure 66 = .ok (.invokevirtual 347, 3) := by decide +kernel
theorem dX8_measure_69 : decode cX8_measure 69 = .ok (.ireturn, 1) := by decide +kernel
theorem dX8_measure_70 : decode cX8_measure 70 = .ok (.aload_n 0, 1) := by decide +kernel
theorem dX8_measure_71 : decode cX8_measure 71 = .ok (.aload_n 1, 1) := by decide +kernel
theorem dX8_measure_72 : decode cX8_measure 72 = .ok (.iconst (-1), 1) := by decide +kernel
theorem dX8_measure_73 : decode cX8_measure 73 = .ok (.invokevirtual 319, 3) := by decide +kernel
theorem dX8_measure_76 : decode cX8_measure 76 = .ok (.ireturn, 1) := by decide +kernel
theorem dX8_isSuch_0 : decode cX8_isSuch 0 = .ok (.iload_n 2, 1) := by decide +kernel
theorem dX8_isSuch_1 : decode cX8_isSuch 1 = .ok (.tableswitch 167 0 9 #[55, 73, 90, 97, 104, 110, 118, 131, 145, 160], 55) := by decide +kernel
theorem dX8_isSuch_56 : decode cX8_isSuch 56 = .ok (.aload_n 0, 1) := by decide +kernel
theorem dX8_isSuch_57 : decode cX8_isSuch 57 = .ok (.getfield 16, 3) := by decide +kernel
theorem dX8_isSuch_60 : decode cX8_isSuch 60 = .ok (.aload_n 1, 1) := by decide +kernel
theorem dX8_isSuch_61 : decode cX8_isSuch 61 = .ok (.invokevirtual 152, 3) := by decide +kernel
theorem dX8_isSuch_64 : decode cX8_isSuch 64 = .ok (.aload_n 0, 1) := by decide +kernel
theorem dX8_isSuch_65 : decode cX8_isSuch 65 = .ok (.aload_n 0, 1) := by decide +kernel
theorem dX8_isSuch_66 : decode cX8_isSuch 66 = .ok (.getfield 16, 3) := by decide +kernel
theorem dX8_isSuch_69 : decode cX8_isSuch 69 = .ok (.aload_n 1, 1) := by decide +kernel
theorem dX8_isSuch_70 : decode cX8_isSuch 70 = .ok (.invokevirtual 350, 3) := by decide +kernel
theorem dX8_isSuch_73 : decode cX8_isSuch 73 = .ok (.ireturn, 1) := by decide +kernel
theorem dX8_isSuch_74 : decode cX8_isSuch 74 = .ok (.aload_n 1, 1) := by decide +kernel
theorem dX8_isSuch_75 : decode cX8_isSuch 75 = .ok (.invokevirtual 221, 3) := by decide +kernel
theorem dX8_isSuch_78 : decode cX8_isSuch 78 = .ok (.aload_n 1, 1) := by decide +kernel
theorem dX8_isSuch_79 : decode cX8_isSuch 79 = .ok (.invokevirtual 273, 3) := by decide +kernel
theorem dX8_isSuch_82 : decode cX8_isSuch 82 = .ok (.if_icmp .ne 7, 3) := by decide +kernel
theorem dX8_isSuch_85 : decode cX8_isSuch 85 = .ok (.iconst 1, 1) := by decide +kernel
theorem dX8_isSuch_86 : decode cX8_isSuch 86 = .ok (.goto 4, 3) := by decide +kernel
theorem dX8_isSuch_89 : decode cX8_isSuch 89 = .ok (.iconst 0, 1) := by decide +kernel
theorem dX8_isSuch_90 : decode cX8_isSuch 90 = .ok (.ireturn, 1) := by decide +kernel
theorem dX8_isSuch_91 : decode cX8_isSuch 91 = .ok (.aload_n 0, 1) := by decide +kernel
theorem dX8_isSuch_92 : decode cX8_isSuch 92 = .ok (.aload_n 1, 1) := by decide +kernel
theorem dX8_isSuch_93 : decode cX8_isSuch 93 = .ok (.iconst 2, 1) := by decide +kernel
theorem dX8_isSuch_94 : decode cX8_isSuch 94 = .ok (.invokevirtual 354, 3) := by decide +kernel
theorem dX8_isSuch_97 : decode cX8_isSuch 97 = .ok (.ireturn, 1) := by decide +kernel
theorem dX8_isSuch_98 : decode cX8_isSuch 98 = .ok (.aload_n 0, 1) := by decide +kernel
theorem dX8_isSuch_99 : decode cX8_isSuch 99 = .ok (.aload_n 1, 1) := by decide +kernel
theorem dX8_isSuch_100 : decode cX8_isSuch 100 = .ok (.iconst 3, 1) := by decide +kernel
theorem dX8_isSuch_101 : decode cX8_isSuch 101 = .ok (.invokevirtual 354, 3) := by decide +kernel
theorem dX8_isSuch_104 : decode cX8_isSuch 104 = .ok (.ireturn, 1) := by decide +kernel
theorem dX8_isSuch_105 : decode cX8_isSuch 105 = .ok (.aload_n 0, 1) := by decide +kernel
theorem dX8_isSuch_106 : decode cX8_isSuch 106 = .ok (.aload_n 1, 1) := by decide +kernel
theorem dX8_isSuch_107 : decode cX8_isSuch 107 = .ok (.invokevirtual 357, 3) := by decide +kernel
theorem dX8_isSuch_110 : decode cX8_isSuch 110 = .ok (.ireturn, 1) := by decide +kernel
theorem dX8_isSuch_111 : decode cX8_isSuch 111 = .ok (.aload_n 0, 1) := by decide +kernel
theorem dX8_isSuch_112 : decode cX8_isSuch 112 = .ok (.aload_n 1, 1) := by decide +kernel
theorem dX8_isSuch_113 : decode cX8_isSuch 113 = .ok (.bipush 7, 2) := by decide +kernel
theorem dX8_isSuch_115 : decode cX8_isSuch 115 = .ok (.invokevirtual 354, 3) := by decide +kernel
theorem dX8_isSuch_118 : decode cX8_isSuch 118 = .ok (.ireturn, 1) := by decide +kernel
theorem dX8_isSuch_119 : decode cX8_isSuch 119 = .ok (.aload_n 1, 1) := by decide +kernel
theorem dX8_isSuch_120 : decode cX8_isSuch 120 = .ok (.invokevirtual 347, 3) := by decide +kernel
theorem dX8_isSuch_123 : decode cX8_isSuch 123 = .ok (.ifCond .eq 7, 3) := by decide +kernel
theorem dX8_isSuch_126 : decode cX8_isSuch 126 = .ok (.iconst 1, 1) := by decide +kernel
theorem dX8_isSuch_127 : decode cX8_isSuch 127 = .ok (.goto 4, 3) := by decide +kernel
theorem dX8_isSuch_130 : decode cX8_isSuch 130 = .ok (.iconst 0, 1) := by decide +kernel
theorem dX8_isSuch_131 : decode cX8_isSuch 131 = .ok (.ireturn, 1) := by decide +kernel
theorem dX8_isSuch_132 : decode cX8_isSuch 132 = .ok (.aload_n 0, 1) := by decide +kernel
theorem dX8_isSuch_133 : decode cX8_isSuch 133 = .ok (.aload_n 1, 1) := by decide +kernel
theorem dX8_isSuch_134 : decode cX8_isSuch 134 = .ok (.invokevirtual 313, 3) := by decide +kernel
theorem dX8_isSuch_137 : decode cX8_isSuch 137 = .ok (.ifCond .ne 7, 3) := by decide +kernel
theorem dX8_isSuch_140 : decode cX8_isSuch 140 = .ok (.iconst 1, 1) := by decide +kernel
theorem dX8_isSuch_141 : decode cX8_isSuch 141 = .ok (.goto 4, 3) := by decide +kernel
theorem dX8_isSuch_144 : decode cX8_isSuch 144 = .ok (.iconst 0, 1) := by decide +kernel
theorem dX8_isSuch_145 : decode cX8_isSuch 145 = .ok (.ireturn, 1) := by decide +kernel
theorem dX8_isSuch_146 : decode cX8_isSuch 146 = .ok (.aload_n 0, 1) := by decide +kernel
theorem dX8_isSuch_147 : decode cX8_isSuch 147 = .ok (.aload_n 1, 1) := by decide +kernel
theorem dX8_isSuch_148 : decode cX8_isSuch 148 = .ok (.invokevirtual 360, 3) := by decide +kernel
theorem dX8_isSuch_151 : decode cX8_isSuch 151 = .ok (.aload_n 0, 1) := by decide +kernel
theorem dX8_isSuch_152 : decode cX8_isSuch 152 = .ok (.aload_n 0, 1) := by decide +kernel
theorem dX8_isSuch_153 : decode cX8_isSuch 153 = .ok (.getfield 16, 3) := by decide +kernel
theorem dX8_isSuch_156 : decode cX8_isSuch 156 = .ok (.aload_n 1, 1) := by decide +kernel
theorem dX8_isSuch_157 : decode cX8_isSuch 157 = .ok (.invokevirtual 350, 3) := by decide +kernel
theorem dX8_isSuch_160 : decode cX8_isSuch 160 = .ok (.ireturn, 1) := by decide +kernel
theorem dX8_isSuch_161 : decode cX8_isSuch 161 = .ok (.aload_n 0, 1) := by decide +kernel
theorem dX8_isSuch_162 : decode cX8_isSuch 162 = .ok (.aload_n 1, 1) := by decide +kernel
theorem dX8_isSuch_163 : decode cX8_isSuch 163 = .ok (.iconst 5, 1) := by decide +kernel
theorem dX8_isSuch_164 : decode cX8_isSuch 164 = .ok (.invokevirtual 354, 3) := by decide +kernel
theorem dX8_isSuch_167 : decode cX8_isSuch 167 = .ok (.ireturn, 1) := by decide +kernel
theorem dX8_isSuch_168 : decode cX8_isSuch 168 = .ok (.aload_n 0, 1) := by decide +kernel
theorem dX8_isSuch_169 : decode cX8_isSuch 169 = .ok (.aload_n 1, 1) := by decide +kernel
theorem dX8_isSuch_170 : decode cX8_isSuch 170 = .ok (.bipush 6, 2) := by decide +kernel
theorem dX8_isSuch_172 : decode cX8_isSuch 172 = .ok (.invokevirtual 354, 3) := by decide +kernel
theorem dX8_isSuch_175 : decode cX8_isSuch 175 = .ok (.ireturn, 1) := by decide +kernel
theorem dX8_makesItself_0 : decode cX8_makesItself 0 = .ok (.aload_n 0, 1) := by decide +kernel
theorem dX8_makesItself_1 : decode cX8_makesItself 1 = .ok (.aload_n 1, 1) := by decide +kernel
theorem dX8_makesItself_2 : decode cX8_makesItself 2 = .ok (.iload_n 2, 1) := by decide +kernel
theorem dX8_makesItself_3 : decode cX8_makesItself 3 = .ok (.invokevirtual 142, 3) := by decide +kernel
theorem dX8_makesItself_6 : decode cX8_makesItself 6 = .ok (.aload_n 0, 1) := by decide +kernel
theorem dX8_makesItself_7 : decode cX8_makesItself 7 = .ok (.getfield 16, 3) := by decide +kernel
theorem dX8_makesItself_10 : decode cX8_makesItself 10 = .ok (.aload_n 1, 1) := by decide +kernel
theorem dX8_makesItself_11 : decode cX8_makesItself 11 = .ok (.invokevirtual 337, 3) := by decide +kernel
theorem dX8_makesItself_14 : decode cX8_makesItself 14 = .ok (.ireturn, 1) := by decide +kernel
theorem dX8_allAnswer_0 : decode cX8_allAnswer 0 = .ok (.aload_n 0, 1) := by decide +kernel
theorem dX8_allAnswer_1 : decode cX8_allAnswer 1 = .ok (.getfield 20, 3) := by decide +kernel
theorem dX8_allAnswer_4 : decode cX8_allAnswer 4 = .ok (.aload_n 2, 1) := by decide +kernel
theorem dX8_allAnswer_5 : decode cX8_allAnswer 5 = .ok (.invokevirtual 218, 3) := by decide +kernel
theorem dX8_allAnswer_8 : decode cX8_allAnswer 8 = .ok (.aload_n 1, 1) := by decide +kernel
theorem dX8_allAnswer_9 : decode cX8_allAnswer 9 = .ok (.aload_n 0, 1) := by decide +kernel
theorem dX8_allAnswer_10 : decode cX8_allAnswer 10 = .ok (.getfield 20, 3) := by decide +kernel
theorem dX8_allAnswer_13 : decode cX8_allAnswer 13 = .ok (.invokevirtual 310, 3) := by decide +kernel
theorem dX8_allAnswer_16 : decode cX8_allAnswer 16 = .ok (.aload_n 1, 1) := by decide +kernel
theorem dX8_allAnswer_17 : decode cX8_allAnswer 17 = .ok (.invokevirtual 230, 3) := by decide +kernel
theorem dX8_allAnswer_20 : decode cX8_allAnswer 20 = .ok (.ireturn, 1) := by decide +kernel
theorem dX8_collectMeets_0 : decode cX8_collectMeets 0 = .ok (.aload_n 0, 1) := by decide +kernel
theorem dX8_collectMeets_1 : decode cX8_collectMeets 1 = .ok (.getfield 16, 3) := by decide +kernel
theorem dX8_collectMeets_4 : decode cX8_collectMeets 4 = .ok (.aload_n 1, 1) := by decide +kernel
theorem dX8_collectMeets_5 : decode cX8_collectMeets 5 = .ok (.getfield 133, 3) := by decide +kernel
theorem dX8_collectMeets_8 : decode cX8_collectMeets 8 = .ok (.invokevirtual 146, 3) := by decide +kernel
theorem dX8_collectMeets_11 : decode cX8_collectMeets 11 = .ok (.iconst 0, 1) := by decide +kernel
theorem dX8_collectMeets_12 : decode cX8_collectMeets 12 = .ok (.istore_n 2, 1) := by decide +kernel
theorem dX8_collectMeets_13 : decode cX8_collectMeets 13 = .ok (.iload_n 2, 1) := by decide +kernel
theorem dX8_collectMeets_14 : decode cX8_collectMeets 14 = .ok (.aload_n 1, 1) := by decide +kernel
theorem dX8_collectMeets_15 : decode cX8_collectMeets 15 = .ok (.invokevirtual 270, 3) := by decide +kernel
theorem dX8_collectMeets_18 : decode cX8_collectMeets 18 = .ok (.if_icmp .ge 44, 3) := by decide +kernel
theorem dX8_collectMeets_21 : decode cX8_collectMeets 21 = .ok (.aload_n 1, 1) := by decide +kernel
theorem dX8_collectMeets_22 : decode cX8_collectMeets 22 = .ok (.iload_n 2, 1) := by decide +kernel
theorem dX8_collectMeets_23 : decode cX8_collectMeets 23 = .ok (.invokevirtual 120, 3) := by decide +kernel
theorem dX8_collectMeets_26 : decode cX8_collectMeets 26 = .ok (.ifCond .eq 30, 3) := by decide +kernel
theorem dX8_collectMeets_29 : decode cX8_collectMeets 29 = .ok (.aload_n 0, 1) := by decide +kernel
theorem dX8_collectMeets_30 : decode cX8_collectMeets 30 = .ok (.getfield 20, 3) := by decide +kernel
theorem dX8_collectMeets_33 : decode cX8_collectMeets 33 = .ok (.aload_n 1, 1) := by decide +kernel
theorem dX8_collectMeets_34 : decode cX8_collectMeets 34 = .ok (.invokevirtual 152, 3) := by decide +kernel
theorem dX8_collectMeets_37 : decode cX8_collectMeets 37 = .ok (.aload_n 0, 1) := by decide +kernel
theorem dX8_collectMeets_38 : decode cX8_collectMeets 38 = .ok (.getfield 20, 3) := by decide +kernel
theorem dX8_collectMeets_41 : decode cX8_collectMeets 41 = .ok (.iload_n 2, 1) := by decide +kernel
theorem dX8_collectMeets_42 : decode cX8_collectMeets 42 = .ok (.invokevirtual 325, 3) := by decide +kernel
theorem dX8_collectMeets_45 : decode cX8_collectMeets 45 = .ok (.aload_n 0, 1) := by decide +kernel
theorem dX8_collectMeets_46 : decode cX8_collectMeets 46 = .ok (.getfield 16, 3) := by decide +kernel
theorem dX8_collectMeets_49 : decode cX8_collectMeets 49 = .ok (.aload_n 0, 1) := by decide +kernel
theorem dX8_collectMeets_50 : decode cX8_collectMeets 50 = .ok (.getfield 20, 3) := by decide +kernel
theorem dX8_collectMeets_53 : decode cX8_collectMeets 53 = .ok (.invokevirtual 286, 3) := by decide +kernel
theorem dX8_collectMeets_56 : decode cX8_collectMeets 56 = .ok (.iinc 2 1, 3) := by decide +kernel
theorem dX8_collectMeets_59 : decode cX8_collectMeets 59 = .ok (.goto (-46), 3) := by decide +kernel
theorem dX8_collectMeets_62 : decode cX8_collectMeets 62 = .ok (.return_, 1) := by decide +kernel
theorem dX8_isChain_0 : decode cX8_isChain 0 = .ok (.iconst 0, 1) := by decide +kernel
theorem dX8_isChain_1 : decode cX8_isChain 1 = .ok (.istore_n 2, 1) := by decide +kernel
theorem dX8_isChain_2 : decode cX8_isChain 2 = .ok (.iload_n 2, 1) := by decide +kernel
theorem dX8_isChain_3 : decode cX8_isChain 3 = .ok (.aload_n 1, 1) := by decide +kernel
theorem dX8_isChain_4 : decode cX8_isChain 4 = .ok (.invokevirtual 270, 3) := by decide +kernel
theorem dX8_isChain_7 : decode cX8_isChain 7 = .ok (.if_icmp .ge 43, 3) := by decide +kernel
theorem dX8_isChain_10 : decode cX8_isChain 10 = .ok (.aload_n 1, 1) := by decide +kernel
theorem dX8_isChain_11 : decode cX8_isChain 11 = .ok (.iload_n 2, 1) := by decide +kernel
theorem dX8_isChain_12 : decode cX8_isChain 12 = .ok (.invokevirtual 120, 3) := by decide +kernel
theorem dX8_isChain_15 : decode cX8_isChain 15 = .ok (.ifCond .eq 29, 3) := by decide +kernel
theorem dX8_isChain_18 : decode cX8_isChain 18 = .ok (.aload_n 0, 1) := by decide +kernel
theorem dX8_isChain_19 : decode cX8_isChain 19 = .ok (.getfield 16, 3) := by decide +kernel
theorem dX8_isChain_22 : decode cX8_isChain 22 = .ok (.aload_n 1, 1) := by decide +kernel
theorem dX8_isChain_23 : decode cX8_isChain 23 = .ok (.iload_n 2, 1) := by decide +kernel
theorem dX8_isChain_24 : decode cX8_isChain 24 = .ok (.aload_n 0, 1) := by decide +kernel
theorem dX8_isChain_25 : decode cX8_isChain 25 = .ok (.getfield 20, 3) := by decide +kernel
theorem dX8_isChain_28 : decode cX8_isChain 28 = .ok (.invokevirtual 363, 3) := by decide +kernel
theorem dX8_isChain_31 : decode cX8_isChain 31 = .ok (.aload_n 0, 1) := by decide +kernel
theorem dX8_isChain_32 : decode cX8_isChain 32 = .ok (.getfield 16, 3) := by decide +kernel
theorem dX8_isChain_35 : decode cX8_isChain 35 = .ok (.aload_n 1, 1) := by decide +kernel
theorem dX8_isChain_36 : decode cX8_isChain 36 = .ok (.invokevirtual 337, 3) := by decide +kernel
theorem dX8_isChain_39 : decode cX8_isChain 39 = .ok (.ifCond .ne 5, 3) := by decide +kernel
theorem dX8_isChain_42 : decode cX8_isChain 42 = .ok (.iconst 0, 1) := by decide +kernel
theorem dX8_isChain_43 : decode cX8_isChain 43 = .ok (.ireturn, 1) := by decide +kernel
theorem dX8_isChain_44 : decode cX8_isChain 44 = .ok (.iinc 2 1, 3) := by decide +kernel
theorem dX8_isChain_47 : decode cX8_isChain 47 = .ok (.goto (-45), 3) := by decide +kernel
theorem dX8_isChain_50 : decode cX8_isChain 50 = .ok (.iconst 1, 1) := by decide +kernel
theorem dX8_isChain_51 : decode cX8_isChain 51 = .ok (.ireturn, 1) := by decide +kernel
theorem dX8_pointsAhead_0 : decode cX8_pointsAhead 0 = .ok (.iconst 0, 1) := by decide +kernel
theorem dX8_pointsAhead_1 : decode cX8_pointsAhead 1 = .ok (.istore_n 2, 1) := by decide +kernel
theorem dX8_pointsAhead_2 : decode cX8_pointsAhead 2 = .ok (.iconst 0, 1) := by decide +kernel
theorem dX8_pointsAhead_3 : decode cX8_pointsAhead 3 = .ok (.istore_n 3, 1) := by decide +kernel
theorem dX8_pointsAhead_4 : decode cX8_pointsAhead 4 = .ok (.iload_n 3, 1) := by decide +kernel
theorem dX8_pointsAhead_5 : decode cX8_pointsAhead 5 = .ok (.aload_n 0, 1) := by decide +kernel
theorem dX8_pointsAhead_6 : decode cX8_pointsAhead 6 = .ok (.getfield 133, 3) := by decide +kernel
theorem dX8_pointsAhead_9 : decode cX8_pointsAhead 9 = .ok (.if_icmp .ge 40, 3) := by decide +kernel
theorem dX8_pointsAhead_12 : decode cX8_pointsAhead 12 = .ok (.aload_n 0, 1) := by decide +kernel
theorem dX8_pointsAhead_13 : decode cX8_pointsAhead 13 = .ok (.iload_n 3, 1) := by decide +kernel
theorem dX8_pointsAhead_14 : decode cX8_pointsAhead 14 = .ok (.invokevirtual 130, 3) := by decide +kernel
theorem dX8_pointsAhead_17 : decode cX8_pointsAhead 17 = .ok (.aload_n 0, 1) := by decide +kernel
theorem dX8_pointsAhead_18 : decode cX8_pointsAhead 18 = .ok (.iload_n 1, 1) := by decide +kernel
theorem dX8_pointsAhead_19 : decode cX8_pointsAhead 19 = .ok (.invokevirtual 130, 3) := by decide +kernel
theorem dX8_pointsAhead_22 : decode cX8_pointsAhead 22 = .ok (.isub, 1) := by decide +kernel
theorem dX8_pointsAhead_23 : decode cX8_pointsAhead 23 = .ok (.istore 4, 2) := by decide +kernel
theorem dX8_pointsAhead_25 : decode cX8_pointsAhead 25 = .ok (.iload 4, 2) := by decide +kernel
theorem dX8_pointsAhead_27 : decode cX8_pointsAhead 27 = .ok (.ifCond .gt 13, 3) := by decide +kernel
theorem dX8_pointsAhead_30 : decode cX8_pointsAhead 30 = .ok (.iload 4, 2) := by decide +kernel
theorem dX8_pointsAhead_32 : decode cX8_pointsAhead 32 = .ok (.ifCond .ne 11, 3) := by decide +kernel
theorem dX8_pointsAhead_35 : decode cX8_pointsAhead 35 = .ok (.iload_n 3, 1) := by decide +kernel
theorem dX8_pointsAhead_36 : decode cX8_pointsAhead 36 = .ok (.iload_n 1, 1) := by decide +kernel
theorem dX8_pointsAhead_37 : decode cX8_pointsAhead 37 = .ok (.if_icmp .ge 6, 3) := by decide +kernel
theorem dX8_pointsAhead_40 : decode cX8_pointsAhead 40 = .ok (.iinc 2 1, 3) := by decide +kernel
theorem dX8_pointsAhead_43 : decode cX8_pointsAhead 43 = .ok (.iinc 3 1, 3) := by decide +kernel
theorem dX8_pointsAhead_46 : decode cX8_pointsAhead 46 = .ok (.goto (-42), 3) := by decide +kernel
theorem dX8_pointsAhead_49 : decode cX8_pointsAhead 49 = .ok (.iload_n 2, 1) := by decide +kernel
theorem dX8_pointsAhead_50 : decode cX8_pointsAhead 50 = .ok (.ireturn, 1) := by decide +kernel
theorem dX8_make_0 : decode cX8_make 0 = .ok (.aload_n 0, 1) := by decide +kernel
theorem dX8_make_1 : decode cX8_make 1 = .ok (.getfield 16, 3) := by decide +kernel
theorem dX8_make_4 : decode cX8_make 4 = .ok (.aload_n 1, 1) := by decide +kernel
theorem dX8_make_5 : decode cX8_make 5 = .ok (.invokevirtual 152, 3) := by decide +kernel
theorem dX8_make_8 : decode cX8_make 8 = .ok (.iload_n 2, 1) := by decide +kernel
theorem dX8_make_9 : decode cX8_make 9 = .ok (.tableswitch 155 0 8 #[51, 62, 73, 83, 93, 103, 118, 133, 144], 51) := by decide +kernel
theorem dX8_make_60 : decode cX8_make 60 = .ok (.aload_n 0, 1) := by decide +kernel
theorem dX8_make_61 : decode cX8_make 61 = .ok (.getfield 16, 3) := by decide +kernel
theorem dX8_make_64 : decode cX8_make 64 = .ok (.aload_n 1, 1) := by decide +kernel
theorem dX8_make_65 : decode cX8_make 65 = .ok (.invokevirtual 367, 3) := by decide +kernel
theorem dX8_make_68 : decode cX8_make 68 = .ok (.goto 115, 3) := by decide +kernel
theorem dX8_make_71 : decode cX8_make 71 = .ok (.aload_n 0, 1) := by decide +kernel
theorem dX8_make_72 : decode cX8_make 72 = .ok (.getfield 16, 3) := by decide +kernel
theorem dX8_make_75 : decode cX8_make 75 = .ok (.aload_n 1, 1) := by decide +kernel
theorem dX8_make_76 : decode cX8_make 76 = .ok (.invokevirtual 370, 3) := by decide +kernel
theorem dX8_make_79 : decode cX8_make 79 = .ok (.goto 104, 3) := by decide +kernel
theorem dX8_make_82 : decode cX8_make 82 = .ok (.aload_n 0, 1) := by decide +kernel
theorem dX8_make_83 : decode cX8_make 83 = .ok (.getfield 16, 3) := by decide +kernel
theorem dX8_make_86 : decode cX8_make 86 = .ok (.invokevirtual 373, 3) := by decide +kernel
theorem dX8_make_89 : decode cX8_make 89 = .ok (.goto 94, 3) := by decide +kernel
theorem dX8_make_92 : decode cX8_make 92 = .ok (.aload_n 0, 1) := by decide +kernel
theorem dX8_make_93 : decode cX8_make 93 = .ok (.getfield 16, 3) := by decide +kernel
theorem dX8_make_96 : decode cX8_make 96 = .ok (.invokevirtual 376, 3) := by decide +kernel
theorem dX8_make_99 : decode cX8_make 99 = .ok (.goto 84, 3) := by decide +kernel
theorem dX8_make_102 : decode cX8_make 102 = .ok (.aload_n 0, 1) := by decide +kernel
theorem dX8_make_103 : decode cX8_make 103 = .ok (.getfield 16, 3) := by decide +kernel
theorem dX8_make_106 : decode cX8_make 106 = .ok (.invokevirtual 379, 3) := by decide +kernel
theorem dX8_make_109 : decode cX8_make 109 = .ok (.goto 74, 3) := by decide +kernel
theorem dX8_make_112 : decode cX8_make 112 = .ok (.aload_n 0, 1) := by decide +kernel
theorem dX8_make_113 : decode cX8_make 113 = .ok (.getfield 16, 3) := by decide +kernel
theorem dX8_make_116 : decode cX8_make 116 = .ok (.aload_n 1, 1) := by decide +kernel
theorem dX8_make_117 : decode cX8_make 117 = .ok (.aload_n 0, 1) := by decide +kernel
theorem dX8_make_118 : decode cX8_make 118 = .ok (.getfield 20, 3) := by decide +kernel
theorem dX8_make_121 : decode cX8_make 121 = .ok (.invokevirtual 382, 3) := by decide +kernel
theorem dX8_make_124 : decode cX8_make 124 = .ok (.goto 59, 3) := by decide +kernel
theorem dX8_make_127 : decode cX8_make 127 = .ok (.aload_n 0, 1) := by decide +kernel
theorem dX8_make_128 : decode cX8_make 128 = .ok (.getfield 16, 3) := by decide +kernel
theorem dX8_make_131 : decode cX8_make 131 = .ok (.aload_n 1, 1) := by decide +kernel
theorem dX8_make_132 : decode cX8_make 132 = .ok (.aload_n 0, 1) := by decide +kernel
theorem dX8_make_133 : decode cX8_make 133 = .ok (.getfield 20, 3) := by decide +kernel
theorem dX8_make_136 : decode cX8_make 136 = .ok (.invokevirtual 385, 3) := by decide +kernel
theorem dX8_make_139 : decode cX8_make 139 = .ok (.goto 44, 3) := by decide +kernel
theorem dX8_make_142 : decode cX8_make 142 = .ok (.aload_n 0, 1) := by decide +kernel
theorem dX8_make_143 : decode cX8_make 143 = .ok (.getfield 16, 3) := by decide +kernel
theorem dX8_make_146 : decode cX8_make 146 = .ok (.aload_n 1, 1) := by decide +kernel
theorem dX8_make_147 : decode cX8_make 147 = .ok (.invokevirtual 388, 3) := by decide +kernel
theorem dX8_make_150 : decode cX8_make 150 = .ok (.goto 33, 3) := by decide +kernel
theorem dX8_make_153 : decode cX8_make 153 = .ok (.aload_n 0, 1) := by decide +kernel
theorem dX8_make_154 : decode cX8_make 154 = .ok (.getfield 16, 3) := by decide +kernel
theorem dX8_make_157 : decode cX8_make 157 = .ok (.aload_n 1, 1) := by decide +kernel
theorem dX8_make_158 : decode cX8_make 158 = .ok (.invokevirtual 391, 3) := by decide +kernel
theorem dX8_make_161 : decode cX8_make 161 = .ok (.goto 22, 3) := by decide +kernel
theorem dX8_make_164 : decode cX8_make 164 = .ok (.aload_n 0, 1) := by decide +kernel
theorem dX8_make_165 : decode cX8_make 165 = .ok (.getfield 20, 3) := by decide +kernel
theorem dX8_make_168 : decode cX8_make 168 = .ok (.aload_n 1, 1) := by decide +kernel
theorem dX8_make_169 : decode cX8_make 169 = .ok (.invokevirtual 218, 3) := by decide +kernel
theorem dX8_make_172 : decode cX8_make 172 = .ok (.aload_n 0, 1) := by decide +kernel
theorem dX8_make_173 : decode cX8_make 173 = .ok (.getfield 16, 3) := by decide +kernel
theorem dX8_make_176 : decode cX8_make 176 = .ok (.aload_n 0, 1) := by decide +kernel
theorem dX8_make_177 : decode cX8_make 177 = .ok (.getfield 20, 3) := by decide +kernel
theorem dX8_make_180 : decode cX8_make 180 = .ok (.invokevirtual 388, 3) := by decide +kernel
theorem dX8_make_183 : decode cX8_make 183 = .ok (.return_, 1) := by decide +kernel
theorem dX8_newcomers_0 : decode cX8_newcomers 0 = .ok (.aload_n 0, 1) := by decide +kernel
theorem dX8_newcomers_1 : decode cX8_newcomers 1 = .ok (.getfield 16, 3) := by decide +kernel
theorem dX8_newcomers_4 : decode cX8_newcomers 4 = .ok (.aload_n 1, 1) := by decide +kernel
theorem dX8_newcomers_5 : decode cX8_newcomers 5 = .ok (.iload_n 3, 1) := by decide +kernel
theorem dX8_newcomers_6 : decode cX8_newcomers 6 = .ok (.iload_n 2, 1) := by decide +kernel
theorem dX8_newcomers_7 : decode cX8_newcomers 7 = .ok (.invokevirtual 394, 3) := by decide +kernel
theorem dX8_newcomers_10 : decode cX8_newcomers 10 = .ok (.aload_n 0, 1) := by decide +kernel
theorem dX8_newcomers_11 : decode cX8_newcomers 11 = .ok (.getfield 16, 3) := by decide +kernel
theorem dX8_newcomers_14 : decode cX8_newcomers 14 = .ok (.aload_n 1, 1) := by decide +kernel
theorem dX8_newcomers_15 : decode cX8_newcomers 15 = .ok (.invokevirtual 310, 3) := by decide +kernel
theorem dX8_newcomers_18 : decode cX8_newcomers 18 = .ok (.aload_n 0, 1) := by decide +kernel
theorem dX8_newcomers_19 : decode cX8_newcomers 19 = .ok (.getfield 16, 3) := by decide +kernel
theorem dX8_newcomers_22 : decode cX8_newcomers 22 = .ok (.invokevirtual 236, 3) := by decide +kernel
theorem dX8_newcomers_25 : decode cX8_newcomers 25 = .ok (.ireturn, 1) := by decide +kernel
theorem dX8_move_0 : decode cX8_move 0 = .ok (.aload_n 0, 1) := by decide +kernel
theorem dX8_move_1 : decode cX8_move 1 = .ok (.aload_n 1, 1) := by decide +kernel
theorem dX8_move_2 : decode cX8_move 2 = .ok (.iload_n 2, 1) := by decide +kernel
theorem dX8_move_3 : decode cX8_move 3 = .ok (.iload_n 3, 1) := by decide +kernel
theorem dX8_move_4 : decode cX8_move 4 = .ok (.invokevirtual 167, 3) := by decide +kernel
theorem dX8_move_7 : decode cX8_move 7 = .ok (.istore 4, 2) := by decide +kernel
theorem dX8_move_9 : decode cX8_move 9 = .ok (.aload_n 0, 1) := by decide +kernel
theorem dX8_move_10 : decode cX8_move 10 = .ok (.getfield 20, 3) := by decide +kernel
theorem dX8_move_13 : decode cX8_move 13 = .ok (.aload_n 0, 1) := by decide +kernel
theorem dX8_move_14 : decode cX8_move 14 = .ok (.getfield 16, 3) := by decide +kernel
theorem dX8_move_17 : decode cX8_move 17 = .ok (.iload_n 2, 1) := by decide +kernel
theorem dX8_move_18 : decode cX8_move 18 = .ok (.iload_n 3, 1) := by decide +kernel
theorem dX8_move_19 : decode cX8_move 19 = .ok (.invokevirtual 394, 3) := by decide +kernel
theorem dX8_move_22 : decode cX8_move 22 = .ok (.aload_n 1, 1) := by decide +kernel
theorem dX8_move_23 : decode cX8_move 23 = .ok (.aload_n 0, 1) := by decide +kernel
theorem dX8_move_24 : decode cX8_move 24 = .ok (.getfield 20, 3) := by decide +kernel
theorem dX8_move_27 : decode cX8_move 27 = .ok (.invokevirtual 310, 3) := by decide +kernel
theorem dX8_move_30 : decode cX8_move 30 = .ok (.aload_n 1, 1) := by decide +kernel
theorem dX8_move_31 : decode cX8_move 31 = .ok (.aload_n 0, 1) := by decide +kernel
theorem dX8_move_32 : decode cX8_move 32 = .ok (.getfield 16, 3) := by decide +kernel
theorem dX8_move_35 : decode cX8_move 35 = .ok (.invokevirtual 286, 3) := by decide +kernel
theorem dX8_move_38 : decode cX8_move 38 = .ok (.iload 4, 2) := by decide +kernel
theorem dX8_move_40 : decode cX8_move 40 = .ok (.ireturn, 1) := by decide +kernel
theorem dX8_changingShifts_0 : decode cX8_changingShifts 0 = .ok (.iconst 0, 1) := by decide +kernel
theorem dX8_changingShifts_1 : decode cX8_changingShifts 1 = .ok (.istore_n 2, 1) := by decide +kernel
theorem dX8_changingShifts_2 : decode cX8_changingShifts 2 = .ok (.iconst 0, 1) := by decide +kernel
theorem dX8_changingShifts_3 : decode cX8_changingShifts 3 = .ok (.istore_n 3, 1) := by decide +kernel
theorem dX8_changingShifts_4 : decode cX8_changingShifts 4 = .ok (.iload_n 3, 1) := by decide +kernel
theorem dX8_changingShifts_5 : decode cX8_changingShifts 5 = .ok (.aload_n 1, 1) := by decide +kernel
theorem dX8_changingShifts_6 : decode cX8_changingShifts 6 = .ok (.getfield 133, 3) := by decide +kernel
theorem dX8_changingShifts_9 : decode cX8_changingShifts 9 = .ok (.if_icmp .ge 43, 3) := by decide +kernel
theorem dX8_changingShifts_12 : decode cX8_changingShifts 12 = .ok (.iload_n 3, 1) := by decide +kernel
theorem dX8_changingShifts_13 : decode cX8_changingShifts 13 = .ok (.iconst 1, 1) := by decide +kernel
theorem dX8_changingShifts_14 : decode cX8_changingShifts 14 = .ok (.iadd, 1) := by decide +kernel
theorem dX8_changingShifts_15 : decode cX8_changingShifts 15 = .ok (.istore 4, 2) := by decide +kernel
theorem dX8_changingShifts_17 : decode cX8_changingShifts 17 = .ok (.iload 4, 2) := by decide +kernel
theorem dX8_changingShifts_19 : decode cX8_changingShifts 19 = .ok (.aload_n 1, 1) := by decide +kernel
theorem dX8_changingShifts_20 : decode cX8_changingShifts 20 = .ok (.getfield 133, 3) := by decide +kernel
theorem dX8_changingShifts_23 : decode cX8_changingShifts 23 = .ok (.if_icmp .ge 23, 3) := by decide +kernel
theorem dX8_changingShifts_26 : decode cX8_changingShifts 26 = .ok (.aload_n 0, 1) := by decide +kernel
theorem dX8_changingShifts_27 : decode cX8_changingShifts 27 = .ok (.aload_n 1, 1) := by decide +kernel
theorem dX8_changingShifts_28 : decode cX8_changingShifts 28 = .ok (.iload_n 3, 1) := by decide +kernel
theorem dX8_changingShifts_29 : decode cX8_changingShifts 29 = .ok (.iload 4, 2) := by decide +kernel
theorem dX8_changingShifts_31 : decode cX8_changingShifts 31 = .ok (.invokevirtual 167, 3) := by decide +kernel
theorem dX8_changingShifts_34 : decode cX8_changingShifts 34 = .ok (.ifCond .le 6, 3) := by decide +kernel
theorem dX8_changingShifts_37 : decode cX8_changingShifts 37 = .ok (.iinc 2 1, 3) := by decide +kernel
theorem dX8_changingShifts_40 : decode cX8_changingShifts 40 = .ok (.iinc 4 1, 3) := by decide +kernel
theorem dX8_changingShifts_43 : decode cX8_changingShifts 43 = .ok (.goto (-26), 3) := by decide +kernel
theorem dX8_changingShifts_46 : decode cX8_changingShifts 46 = .ok (.iinc 3 1, 3) := by decide +kernel
theorem dX8_changingShifts_49 : decode cX8_changingShifts 49 = .ok (.goto (-45), 3) := by decide +kernel
theorem dX8_changingShifts_52 : decode cX8_changingShifts 52 = .ok (.iload_n 2, 1) := by decide +kernel
theorem dX8_changingShifts_53 : decode cX8_changingShifts 53 = .ok (.ireturn, 1) := by decide +kernel
theorem dX8_settle_0 : decode cX8_settle 0 = .ok (.iconst 0, 1) := by decide +kernel
theorem dX8_settle_1 : decode cX8_settle 1 = .ok (.istore_n 2, 1) := by decide +kernel
theorem dX8_settle_2 : decode cX8_settle 2 = .ok (.iconst 0, 1) := by decide +kernel
theorem dX8_settle_3 : decode cX8_settle 3 = .ok (.istore_n 3, 1) := by decide +kernel
theorem dX8_settle_4 : decode cX8_settle 4 = .ok (.iload_n 3, 1) := by decide +kernel
theorem dX8_settle_5 : decode cX8_settle 5 = .ok (.sipush 16384, 3) := by decide +kernel
theorem dX8_settle_8 : decode cX8_settle 8 = .ok (.if_icmp .ge 75, 3) := by decide +kernel
theorem dX8_settle_11 : decode cX8_settle 11 = .ok (.iload_n 2, 1) := by decide +kernel
theorem dX8_settle_12 : decode cX8_settle 12 = .ok (.istore 4, 2) := by decide +kernel
theorem dX8_settle_14 : decode cX8_settle 14 = .ok (.iconst 0, 1) := by decide +kernel
theorem dX8_settle_15 : decode cX8_settle 15 = .ok (.istore 5, 2) := by decide +kernel
theorem dX8_settle_17 : decode cX8_settle 17 = .ok (.iload 5, 2) := by decide +kernel
theorem dX8_settle_19 : decode cX8_settle 19 = .ok (.aload_n 1, 1) := by decide +kernel
theorem dX8_settle_20 : decode cX8_settle 20 = .ok (.getfield 133, 3) := by decide +kernel
theorem dX8_settle_23 : decode cX8_settle 23 = .ok (.if_icmp .ge 45, 3) := by decide +kernel
theorem dX8_settle_26 : decode cX8_settle 26 = .ok (.iload 5, 2) := by decide +kernel
theorem dX8_settle_28 : decode cX8_settle 28 = .ok (.iconst 1, 1) := by decide +kernel
theorem dX8_settle_29 : decode cX8_settle 29 = .ok (.iadd, 1) := by decide +kernel
theorem dX8_settle_30 : decode cX8_settle 30 = .ok (.istore 6, 2) := by decide +kernel
theorem dX8_settle_32 : decode cX8_settle 32 = .ok (.iload 6, 2) := by decide +kernel
theorem dX8_settle_34 : decode cX8_settle 34 = .ok (.aload_n 1, 1) := by decide +kernel
theorem dX8_settle_35 : decode cX8_settle 35 = .ok (.getfield 133, 3) := by decide +kernel
theorem dX8_settle_38 : decode cX8_settle 38 = .ok (.if_icmp .ge 24, 3) := by decide +kernel
theorem dX8_settle_41 : decode cX8_settle 41 = .ok (.aload_n 0, 1) := by decide +kernel
theorem dX8_settle_42 : decode cX8_settle 42 = .ok (.aload_n 1, 1) := by decide +kernel
theorem dX8_settle_43 : decode cX8_settle 43 = .ok (.iload 5, 2) := by decide +kernel
theorem dX8_settle_45 : decode cX8_settle 45 = .ok (.iload 6, 2) := by decide +kernel
theorem dX8_settle_47 : decode cX8_settle 47 = .ok (.invokevirtual 163, 3) := by decide +kernel
theorem dX8_settle_50 : decode cX8_settle 50 = .ok (.ifCond .le 6, 3) := by decide +kernel
theorem dX8_settle_53 : decode cX8_settle 53 = .ok (.iinc 2 1, 3) := by decide +kernel
theorem dX8_settle_56 : decode cX8_settle 56 = .ok (.iinc 6 1, 3) := by decide +kernel
theorem dX8_settle_59 : decode cX8_settle 59 = .ok (.goto (-27), 3) := by decide +kernel
theorem dX8_settle_62 : decode cX8_settle 62 = .ok (.iinc 5 1, 3) := by decide +kernel
theorem dX8_settle_65 : decode cX8_settle 65 = .ok (.goto (-48), 3) := by decide +kernel
theorem dX8_settle_68 : decode cX8_settle 68 = .ok (.iload_n 2, 1) := by decide +kernel
theorem dX8_settle_69 : decode cX8_settle 69 = .ok (.iload 4, 2) := by decide +kernel
theorem dX8_settle_71 : decode cX8_settle 71 = .ok (.if_icmp .ne 6, 3) := by decide +kernel
theorem dX8_settle_74 : decode cX8_settle 74 = .ok (.goto 9, 3) := by decide +kernel
theorem dX8_settle_77 : decode cX8_settle 77 = .ok (.iinc 3 1, 3) := by decide +kernel
theorem dX8_settle_80 : decode cX8_settle 80 = .ok (.goto (-76), 3) := by decide +kernel
theorem dX8_settle_83 : decode cX8_settle 83 = .ok (.iload_n 2, 1) := by decide +kernel
theorem dX8_settle_84 : decode cX8_settle 84 = .ok (.ireturn, 1) := by decide +kernel
theorem dX8_walk_0 : decode cX8_walk 0 = .ok (.aload_n 0, 1) := by decide +kernel
theorem dX8_walk_1 : decode cX8_walk 1 = .ok (.getfield 16, 3) := by decide +kernel
theorem dX8_walk_4 : decode cX8_walk 4 = .ok (.aload_n 1, 1) := by decide +kernel
theorem dX8_walk_5 : decode cX8_walk 5 = .ok (.getfield 133, 3) := by decide +kernel
theorem dX8_walk_8 : decode cX8_walk 8 = .ok (.invokevirtual 146, 3) := by decide +kernel
theorem dX8_walk_11 : decode cX8_walk 11 = .ok (.aload_n 0, 1) := by decide +kernel
theorem dX8_walk_12 : decode cX8_walk 12 = .ok (.getfield 16, 3) := by decide +kernel
theorem dX8_walk_15 : decode cX8_walk 15 = .ok (.iload_n 2, 1) := by decide +kernel
theorem dX8_walk_16 : decode cX8_walk 16 = .ok (.invokevirtual 187, 3) := by decide +kernel
theorem dX8_walk_19 : decode cX8_walk 19 = .ok (.aload_n 0, 1) := by decide +kernel
theorem dX8_walk_20 : decode cX8_walk 20 = .ok (.getfield 23, 3) := by decide +kernel
theorem dX8_walk_23 : decode cX8_walk 23 = .ok (.aload_n 1, 1) := by decide +kernel
theorem dX8_walk_24 : decode cX8_walk 24 = .ok (.invokevirtual 152, 3) := by decide +kernel
theorem dX8_walk_27 : decode cX8_walk 27 = .ok (.iconst 0, 1) := by decide +kernel
theorem dX8_walk_28 : decode cX8_walk 28 = .ok (.istore 4, 2) := by decide +kernel
theorem dX8_walk_30 : decode cX8_walk 30 = .ok (.iload 4, 2) := by decide +kernel
theorem dX8_walk_32 : decode cX8_walk 32 = .ok (.sipush 128, 3) := by decide +kernel
theorem dX8_walk_35 : decode cX8_walk 35 = .ok (.if_icmp .ge 71, 3) := by decide +kernel
theorem dX8_walk_38 : decode cX8_walk 38 = .ok (.aload_n 0, 1) := by decide +kernel
theorem dX8_walk_39 : decode cX8_walk 39 = .ok (.getfield 16, 3) := by decide +kernel
theorem dX8_walk_42 : decode cX8_walk 42 = .ok (.iload_n 3, 1) := by decide +kernel
theorem dX8_walk_43 : decode cX8_walk 43 = .ok (.invokevirtual 120, 3) := by decide +kernel
theorem dX8_walk_46 : decode cX8_walk 46 = .ok (.ifCond .eq 6, 3) := by decide +kernel
theorem dX8_walk_49 : decode cX8_walk 49 = .ok (.iload 4, 2) := by decide +kernel
theorem dX8_walk_51 : decode cX8_walk 51 = .ok (.ireturn, 1) := by decide +kernel
theorem dX8_walk_52 : decode cX8_walk 52 = .ok (.aload_n 0, 1) := by decide +kernel
theorem dX8_walk_53 : decode cX8_walk 53 = .ok (.getfield 23, 3) := by decide +kernel
theorem dX8_walk_56 : decode cX8_walk 56 = .ok (.aload_n 0, 1) := by decide +kernel
theorem dX8_walk_57 : decode cX8_walk 57 = .ok (.getfield 16, 3) := by decide +kernel
theorem dX8_walk_60 : decode cX8_walk 60 = .ok (.invokevirtual 310, 3) := by decide +kernel
theorem dX8_walk_63 : decode cX8_walk 63 = .ok (.aload_n 0, 1) := by decide +kernel
theorem dX8_walk_64 : decode cX8_walk 64 = .ok (.getfield 16, 3) := by decide +kernel
theorem dX8_walk_67 : decode cX8_walk 67 = .ok (.invokevirtual 376, 3) := by decide +kernel
theorem dX8_walk_70 : decode cX8_walk 70 = .ok (.aload_n 0, 1) := by decide +kernel
theorem dX8_walk_71 : decode cX8_walk 71 = .ok (.getfield 16, 3) := by decide +kernel
theorem dX8_walk_74 : decode cX8_walk 74 = .ok (.invokevirtual 379, 3) := by decide +kernel
theorem dX8_walk_77 : decode cX8_walk 77 = .ok (.aload_n 0, 1) := by decide +kernel
theorem dX8_walk_78 : decode cX8_walk 78 = .ok (.getfield 16, 3) := by decide +kernel
theorem dX8_walk_81 : decode cX8_walk 81 = .ok (.aload_n 0, 1) := by decide +kernel
theorem dX8_walk_82 : decode cX8_walk 82 = .ok (.getfield 23, 3) := by decide +kernel
theorem dX8_walk_85 : decode cX8_walk 85 = .ok (.invokevirtual 283, 3) := by decide +kernel
theorem dX8_walk_88 : decode cX8_walk 88 = .ok (.aload_n 0, 1) := by decide +kernel
theorem dX8_walk_89 : decode cX8_walk 89 = .ok (.getfield 16, 3) := by decide +kernel
theorem dX8_walk_92 : decode cX8_walk 92 = .ok (.invokevirtual 230, 3) := by decide +kernel
theorem dX8_walk_95 : decode cX8_walk 95 = .ok (.ifCond .eq 5, 3) := by decide +kernel
theorem dX8_walk_98 : decode cX8_walk 98 = .ok (.iconst (-1), 1) := by decide +kernel
theorem dX8_walk_99 : decode cX8_walk 99 = .ok (.ireturn, 1) := by decide +kernel
theorem dX8_walk_100 : decode cX8_walk 100 = .ok (.iinc 4 1, 3) := by decide +kernel
theorem dX8_walk_103 : decode cX8_walk 103 = .ok (.goto (-73), 3) := by decide +kernel
theorem dX8_walk_106 : decode cX8_walk 106 = .ok (.iconst (-1), 1) := by decide +kernel
theorem dX8_walk_107 : decode cX8_walk 107 = .ok (.ireturn, 1) := by decide +kernel
theorem dX8_arcsOf_0 : decode cX8_arcsOf 0 = .ok (.aload_n 1, 1) := by decide +kernel
theorem dX8_arcsOf_1 : decode cX8_arcsOf 1 = .ok (.getfield 133, 3) := by decide +kernel
theorem dX8_arcsOf_4 : decode cX8_arcsOf 4 = .ok (.istore_n 2, 1) := by decide +kernel
theorem dX8_arcsOf_5 : decode cX8_arcsOf 5 = .ok (.aload_n 1, 1) := by decide +kernel
theorem dX8_arcsOf_6 : decode cX8_arcsOf 6 = .ok (.iconst 0, 1) := by decide +kernel
theorem dX8_arcsOf_7 : decode cX8_arcsOf 7 = .ok (.invokevirtual 120, 3) := by decide +kernel
theorem dX8_arcsOf_10 : decode cX8_arcsOf 10 = .ok (.ifCond .eq 7, 3) := by decide +kernel
theorem dX8_arcsOf_13 : decode cX8_arcsOf 13 = .ok (.iconst 1, 1) := by decide +kernel
theorem dX8_arcsOf_14 : decode cX8_arcsOf 14 = .ok (.goto 4, 3) := by decide +kernel
theorem dX8_arcsOf_17 : decode cX8_arcsOf 17 = .ok (.iconst 0, 1) := by decide +kernel
theorem dX8_arcsOf_18 : decode cX8_arcsOf 18 = .ok (.aload_n 1, 1) := by decide +kernel
theorem dX8_arcsOf_19 : decode cX8_arcsOf 19 = .ok (.aload_n 1, 1) := by decide +kernel
theorem dX8_arcsOf_20 : decode cX8_arcsOf 20 = .ok (.invokevirtual 270, 3) := by decide +kernel
theorem dX8_arcsOf_23 : decode cX8_arcsOf 23 = .ok (.iconst 1, 1) := by decide +kernel
theorem dX8_arcsOf_24 : decode cX8_arcsOf 24 = .ok (.isub, 1) := by decide +kernel
theorem dX8_arcsOf_25 : decode cX8_arcsOf 25 = .ok (.invokevirtual 120, 3) := by decide +kernel
theorem dX8_arcsOf_28 : decode cX8_arcsOf 28 = .ok (.ifCond .eq 7, 3) := by decide +kernel
theorem dX8_arcsOf_31 : decode cX8_arcsOf 31 = .ok (.iconst 1, 1) := by decide +kernel
theorem dX8_arcsOf_32 : decode cX8_arcsOf 32 = .ok (.goto 4, 3) := by decide +kernel
theorem dX8_arcsOf_35 : decode cX8_arcsOf 35 = .ok (.iconst 0, 1) := by decide +kernel
theorem dX8_arcsOf_36 : decode cX8_arcsOf 36 = .ok (.iadd, 1) := by decide +kernel
theorem dX8_arcsOf_37 : decode cX8_arcsOf 37 = .ok (.istore_n 3, 1) := by decide +kernel
theorem dX8_arcsOf_38 : decode cX8_arcsOf 38 = .ok (.iconst 0, 1) := by decide +kernel
theorem dX8_arcsOf_39 : decode cX8_arcsOf 39 = .ok (.istore 4, 2) := by decide +kernel
theorem dX8_arcsOf_41 : decode cX8_arcsOf 41 = .ok (.iload 4, 2) := by decide +kernel
theorem dX8_arcsOf_43 : decode cX8_arcsOf 43 = .ok (.iload_n 2, 1) := by decide +kernel
theorem dX8_arcsOf_44 : decode cX8_arcsOf 44 = .ok (.if_icmp .ge 60, 3) := by decide +kernel
theorem dX8_arcsOf_47 : decode cX8_arcsOf 47 = .ok (.iconst 0, 1) := by decide +kernel
theorem dX8_arcsOf_48 : decode cX8_arcsOf 48 = .ok (.istore 5, 2) := by decide +kernel
theorem dX8_arcsOf_50 : decode cX8_arcsOf 50 = .ok (.iconst 1, 1) := by decide +kernel
theorem dX8_arcsOf_51 : decode cX8_arcsOf 51 = .ok (.istore 6, 2) := by decide +kernel
theorem dX8_arcsOf_53 : decode cX8_arcsOf 53 = .ok (.iload 6, 2) := by decide +kernel
theorem dX8_arcsOf_55 : decode cX8_arcsOf 55 = .ok (.iload_n 2, 1) := by decide +kernel
theorem dX8_arcsOf_56 : decode cX8_arcsOf 56 = .ok (.if_icmp .ge 42, 3) := by decide +kernel
theorem dX8_arcsOf_59 : decode cX8_arcsOf 59 = .ok (.iload 5, 2) := by decide +kernel
theorem dX8_arcsOf_61 : decode cX8_arcsOf 61 = .ok (.iconst 1, 1) := by decide +kernel
theorem dX8_arcsOf_62 : decode cX8_arcsOf 62 = .ok (.aload_n 0, 1) := by decide +kernel
theorem dX8_arcsOf_63 : decode cX8_arcsOf 63 = .ok (.getfield 26, 3) := by decide +kernel
theorem dX8_arcsOf_66 : decode cX8_arcsOf 66 = .ok (.iload 4, 2) := by decide +kernel
theorem dX8_arcsOf_68 : decode cX8_arcsOf 68 = .ok (.iload 6, 2) := by decide +kernel
theorem dX8_arcsOf_70 : decode cX8_arcsOf 70 = .ok (.iadd, 1) := by decide +kernel
theorem dX8_arcsOf_71 : decode cX8_arcsOf 71 = .ok (.iconst 1, 1) := by decide +kernel
theorem dX8_arcsOf_72 : decode cX8_arcsOf 72 = .ok (.isub, 1) := by decide +kernel
theorem dX8_arcsOf_73 : decode cX8_arcsOf 73 = .ok (.iload_n 2, 1) := by decide +kernel
theorem dX8_arcsOf_74 : decode cX8_arcsOf 74 = .ok (.irem, 1) := by decide +kernel
theorem dX8_arcsOf_75 : decode cX8_arcsOf 75 = .ok (.iaload, 1) := by decide +kernel
theorem dX8_arcsOf_76 : decode cX8_arcsOf 76 = .ok (.ishl, 1) := by decide +kernel
theorem dX8_arcsOf_77 : decode cX8_arcsOf 77 = .ok (.ior, 1) := by decide +kernel
theorem dX8_arcsOf_78 : decode cX8_arcsOf 78 = .ok (.istore 5, 2) := by decide +kernel
theorem dX8_arcsOf_80 : decode cX8_arcsOf 80 = .ok (.aload_n 1, 1) := by decide +kernel
theorem dX8_arcsOf_81 : decode cX8_arcsOf 81 = .ok (.iload 5, 2) := by decide +kernel
theorem dX8_arcsOf_83 : decode cX8_arcsOf 83 = .ok (.invokevirtual 120, 3) := by decide +kernel
theorem dX8_arcsOf_86 : decode cX8_arcsOf 86 = .ok (.ifCond .eq 6, 3) := by decide +kernel
theorem dX8_arcsOf_89 : decode cX8_arcsOf 89 = .ok (.iinc 3 1, 3) := by decide +kernel
theorem dX8_arcsOf_92 : decode cX8_arcsOf 92 = .ok (.iinc 6 1, 3) := by decide +kernel
theorem dX8_arcsOf_95 : decode cX8_arcsOf 95 = .ok (.goto (-42), 3) := by decide +kernel
theorem dX8_arcsOf_98 : decode cX8_arcsOf 98 = .ok (.iinc 4 1, 3) := by decide +kernel
theorem dX8_arcsOf_101 : decode cX8_arcsOf 101 = .ok (.goto (-60), 3) := by decide +kernel
theorem dX8_arcsOf_104 : decode cX8_arcsOf 104 = .ok (.iload_n 3, 1) := by decide +kernel
theorem dX8_arcsOf_105 : decode cX8_arcsOf 105 = .ok (.ireturn, 1) := by decide +kernel
theorem dX8_isShattered_0 : decode cX8_isShattered 0 = .ok (.aload_n 0, 1) := by decide +kernel
theorem dX8_isShattered_1 : decode cX8_isShattered 1 = .ok (.getfield 16, 3) := by decide +kernel
theorem dX8_isShattered_4 : decode cX8_isShattered 4 = .ok (.aload_n 1, 1) := by decide +kernel
theorem dX8_isShattered_5 : decode cX8_isShattered 5 = .ok (.invokevirtual 152, 3) := by decide +kernel
theorem dX8_isShattered_8 : decode cX8_isShattered 8 = .ok (.aload_n 0, 1) := by decide +kernel
theorem dX8_isShattered_9 : decode cX8_isShattered 9 = .ok (.getfield 16, 3) := by decide +kernel
theorem dX8_isShattered_12 : decode cX8_isShattered 12 = .ok (.iload_n 2, 1) := by decide +kernel
theorem dX8_isShattered_13 : decode cX8_isShattered 13 = .ok (.invokevirtual 325, 3) := by decide +kernel
theorem dX8_isShattered_16 : decode cX8_isShattered 16 = .ok (.aload_n 0, 1) := by decide +kernel
theorem dX8_isShattered_17 : decode cX8_isShattered 17 = .ok (.getfield 16, 3) := by decide +kernel
theorem dX8_isShattered_20 : decode cX8_isShattered 20 = .ok (.invokevirtual 236, 3) := by decide +kernel
theorem dX8_isShattered_23 : decode cX8_isShattered 23 = .ok (.iconst 1, 1) := by decide +kernel
theorem dX8_isShattered_24 : decode cX8_isShattered 24 = .ok (.iload_n 2, 1) := by decide +kernel
theorem dX8_isShattered_25 : decode cX8_isShattered 25 = .ok (.invokestatic 190, 3) := by decide +kernel
theorem dX8_isShattered_28 : decode cX8_isShattered 28 = .ok (.ishl, 1) := by decide +kernel
theorem dX8_isShattered_29 : decode cX8_isShattered 29 = .ok (.if_icmp .ne 7, 3) := by decide +kernel
theorem dX8_isShattered_32 : decode cX8_isShattered 32 = .ok (.iconst 1, 1) := by decide +kernel
theorem dX8_isShattered_33 : decode cX8_isShattered 33 = .ok (.goto 4, 3) := by decide +kernel
theorem dX8_isShattered_36 : decode cX8_isShattered 36 = .ok (.iconst 0, 1) := by decide +kernel
theorem dX8_isShattered_37 : decode cX8_isShattered 37 = .ok (.ireturn, 1) := by decide +kernel
theorem dX8_findFlower_0 : decode cX8_findFlower 0 = .ok (.iconst 0, 1) := by decide +kernel
theorem dX8_findFlower_1 : decode cX8_findFlower 1 = .ok (.istore_n 3, 1) := by decide +kernel
theorem dX8_findFlower_2 : decode cX8_findFlower 2 = .ok (.iconst 0, 1) := by decide +kernel
theorem dX8_findFlower_3 : decode cX8_findFlower 3 = .ok (.istore 4, 2) := by decide +kernel
theorem dX8_findFlower_5 : decode cX8_findFlower 5 = .ok (.iload 4, 2) := by decide +kernel
theorem dX8_findFlower_7 : decode cX8_findFlower 7 = .ok (.aload_n 1, 1) := by decide +kernel
theorem dX8_findFlower_8 : decode cX8_findFlower 8 = .ok (.invokevirtual 270, 3) := by decide +kernel
theorem dX8_findFlower_11 : decode cX8_findFlower 11 = .ok (.if_icmp .ge 140, 3) := by decide +kernel
theorem dX8_findFlower_14 : decode cX8_findFlower 14 = .ok (.aload_n 1, 1) := by decide +kernel
theorem dX8_findFlower_15 : decode cX8_findFlower 15 = .ok (.iload 4, 2) := by decide +kernel
theorem dX8_findFlower_17 : decode cX8_findFlower 17 = .ok (.invokevirtual 120, 3) := by decide +kernel
theorem dX8_findFlower_20 : decode cX8_findFlower 20 = .ok (.ifCond .ne 6, 3) := by decide +kernel
theorem dX8_findFlower_23 : decode cX8_findFlower 23 = .ok (.goto 122, 3) := by decide +kernel
theorem dX8_findFlower_26 : decode cX8_findFlower 26 = .ok (.iload 4, 2) := by decide +kernel
theorem dX8_findFlower_28 : decode cX8_findFlower 28 = .ok (.iconst 1, 1) := by decide +kernel
theorem dX8_findFlower_29 : decode cX8_findFlower 29 = .ok (.iadd, 1) := by decide +kernel
theorem dX8_findFlower_30 : decode cX8_findFlower 30 = .ok (.istore 5, 2) := by decide +kernel
theorem dX8_findFlower_32 : decode cX8_findFlower 32 = .ok (.iload 5, 2) := by decide +kernel
theorem dX8_findFlower_34 : decode cX8_findFlower 34 = .ok (.aload_n 1, 1) := by decide +kernel
theorem dX8_findFlower_35 : decode cX8_findFlower 35 = .ok (.invokevirtual 270, 3) := by decide +kernel
theorem dX8_findFlower_38 : decode cX8_findFlower 38 = .ok (.if_icmp .ge 107, 3) := by decide +kernel
theorem dX8_findFlower_41 : decode cX8_findFlower 41 = .ok (.aload_n 1, 1) := by decide +kernel
theorem dX8_findFlower_42 : decode cX8_findFlower 42 = .ok (.iload 5, 2) := by decide +kernel
theorem dX8_findFlower_44 : decode cX8_findFlower 44 = .ok (.invokevirtual 120, 3) := by decide +kernel
theorem dX8_findFlower_47 : decode cX8_findFlower 47 = .ok (.ifCond .ne 6, 3) := by decide +kernel
theorem dX8_findFlower_50 : decode cX8_findFlower 50 = .ok (.goto 89, 3) := by decide +kernel
theorem dX8_findFlower_53 : decode cX8_findFlower 53 = .ok (.aload_n 0, 1) := by decide +kernel
theorem dX8_findFlower_54 : decode cX8_findFlower 54 = .ok (.getfield 16, 3) := by decide +kernel
theorem dX8_findFlower_57 : decode cX8_findFlower 57 = .ok (.aload_n 1, 1) := by decide +kernel
theorem dX8_findFlower_58 : decode cX8_findFlower 58 = .ok (.invokevirtual 152, 3) := by decide +kernel
theorem dX8_findFlower_61 : decode cX8_findFlower 61 = .ok (.aload_n 0, 1) := by decide +kernel
theorem dX8_findFlower_62 : decode cX8_findFlower 62 = .ok (.getfield 16, 3) := by decide +kernel
theorem dX8_findFlower_65 : decode cX8_findFlower 65 = .ok (.iload 4, 2) := by decide +kernel
theorem dX8_findFlower_67 : decode cX8_findFlower 67 = .ok (.iload 5, 2) := by decide +kernel
theorem dX8_findFlower_69 : decode cX8_findFlower 69 = .ok (.ior, 1) := by decide +kernel
theorem dX8_findFlower_70 : decode cX8_findFlower 70 = .ok (.iload 4, 2) := by decide +kernel
theorem dX8_findFlower_72 : decode cX8_findFlower 72 = .ok (.iload 5, 2) := by decide +kernel
theorem dX8_findFlower_74 : decode cX8_findFlower 74 = .ok (.iand, 1) := by decide +kernel
theorem dX8_findFlower_75 : decode cX8_findFlower 75 = .ok (.invokevirtual 398, 3) := by decide +kernel
theorem dX8_findFlower_78 : decode cX8_findFlower 78 = .ok (.aload_n 0, 1) := by decide +kernel
theorem dX8_findFlower_79 : decode cX8_findFlower 79 = .ok (.getfield 16, 3) := by decide +kernel
theorem dX8_findFlower_82 : decode cX8_findFlower 82 = .ok (.iload 5, 2) := by decide +kernel
theorem dX8_findFlower_84 : decode cX8_findFlower 84 = .ok (.invokevirtual 402, 3) := by decide +kernel
theorem dX8_findFlower_87 : decode cX8_findFlower 87 = .ok (.aload_n 0, 1) := by decide +kernel
theorem dX8_findFlower_88 : decode cX8_findFlower 88 = .ok (.getfield 16, 3) := by decide +kernel
theorem dX8_findFlower_91 : decode cX8_findFlower 91 = .ok (.invokevirtual 236, 3) := by decide +kernel
theorem dX8_findFlower_94 : decode cX8_findFlower 94 = .ok (.istore 6, 2) := by decide +kernel
theorem dX8_findFlower_96 : decode cX8_findFlower 96 = .ok (.iload_n 2, 1) := by decide +kernel
theorem dX8_findFlower_97 : decode cX8_findFlower 97 = .ok (.iconst (-1), 1) := by decide +kernel
theorem dX8_findFlower_98 : decode cX8_findFlower 98 = .ok (.if_icmp .eq 36, 3) := by decide +kernel
theorem dX8_findFlower_101 : decode cX8_findFlower 101 = .ok (.iload_n 2, 1) := by decide +kernel
theorem dX8_findFlower_102 : decode cX8_findFlower 102 = .ok (.iload_n 3, 1) := by decide +kernel
theorem dX8_findFlower_103 : decode cX8_findFlower 103 = .ok (.isub, 1) := by decide +kernel
theorem dX8_findFlower_104 : decode cX8_findFlower 104 = .ok (.iload 6, 2) := by decide +kernel
theorem dX8_findFlower_106 : decode cX8_findFlower 106 = .ok (.if_icmp .ge 28, 3) := by decide +kernel
theorem dX8_findFlower_109 : decode cX8_findFlower 109 = .ok (.ldc_w 405, 3) := by decide +kernel
theorem dX8_findFlower_112 : decode cX8_findFlower 112 = .ok (.iload 4, 2) := by decide +kernel
theorem dX8_findFlower_114 : decode cX8_findFlower 114 = .ok (.imul, 1) := by decide +kernel
theorem dX8_findFlower_115 : decode cX8_findFlower 115 = .ok (.sipush 1000, 3) := by decide +kernel
theorem dX8_findFlower_118 : decode cX8_findFlower 118 = .ok (.iload 5, 2) := by decide +kernel
theorem dX8_findFlower_120 : decode cX8_findFlower 120 = .ok (.imul, 1) := by decide +kernel
theorem dX8_findFlower_121 : decode cX8_findFlower 121 = .ok (.iadd, 1) := by decide +kernel
theorem dX8_findFlower_122 : decode cX8_findFlower 122 = .ok (.aload_n 0, 1) := by decide +kernel
theorem dX8_findFlower_123 : decode cX8_findFlower 123 = .ok (.getfield 16, 3) := by decide +kernel
theorem dX8_findFlower_126 : decode cX8_findFlower 126 = .ok (.iload_n 2, 1) := by decide +kernel
theorem dX8_findFlower_127 : decode cX8_findFlower 127 = .ok (.iload_n 3, 1) := by decide +kernel
theorem dX8_findFlower_128 : decode cX8_findFlower 128 = .ok (.isub, 1) := by decide +kernel
theorem dX8_findFlower_129 : decode cX8_findFlower 129 = .ok (.invokevirtual 113, 3) := by decide +kernel
theorem dX8_findFlower_132 : decode cX8_findFlower 132 = .ok (.iadd, 1) := by decide +kernel
theorem dX8_findFlower_133 : decode cX8_findFlower 133 = .ok (.ireturn, 1) := by decide +kernel
theorem dX8_findFlower_134 : decode cX8_findFlower 134 = .ok (.iload_n 3, 1) := by decide +kernel
theorem dX8_findFlower_135 : decode cX8_findFlower 135 = .ok (.iload 6, 2) := by decide +kernel
theorem dX8_findFlower_137 : decode cX8_findFlower 137 = .ok (.iadd, 1) := by decide +kernel
theorem dX8_findFlower_138 : decode cX8_findFlower 138 = .ok (.istore_n 3, 1) := by decide +kernel
theorem dX8_findFlower_139 : decode cX8_findFlower 139 = .ok (.iinc 5 1, 3) := by decide +kernel
theorem dX8_findFlower_142 : decode cX8_findFlower 142 = .ok (.goto (-110), 3) := by decide +kernel
theorem dX8_findFlower_145 : decode cX8_findFlower 145 = .ok (.iinc 4 1, 3) := by decide +kernel
theorem dX8_findFlower_148 : decode cX8_findFlower 148 = .ok (.goto (-143), 3) := by decide +kernel
theorem dX8_findFlower_151 : decode cX8_findFlower 151 = .ok (.iload_n 2, 1) := by decide +kernel
theorem dX8_findFlower_152 : decode cX8_findFlower 152 = .ok (.iconst (-1), 1) := by decide +kernel
theorem dX8_findFlower_153 : decode cX8_findFlower 153 = .ok (.if_icmp .ne 7, 3) := by decide +kernel
theorem dX8_findFlower_156 : decode cX8_findFlower 156 = .ok (.iload_n 3, 1) := by decide +kernel
theorem dX8_findFlower_157 : decode cX8_findFlower 157 = .ok (.goto 4, 3) := by decide +kernel
theorem dX8_findFlower_160 : decode cX8_findFlower 160 = .ok (.iconst (-1), 1) := by decide +kernel
theorem dX8_findFlower_161 : decode cX8_findFlower 161 = .ok (.ireturn, 1) := by decide +kernel
theorem dX8_findApart_0 : decode cX8_findApart 0 = .ok (.iconst 0, 1) := by decide +kernel
theorem dX8_findApart_1 : decode cX8_findApart 1 = .ok (.istore_n 3, 1) := by decide +kernel
theorem dX8_findApart_2 : decode cX8_findApart 2 = .ok (.iconst 0, 1) := by decide +kernel
theorem dX8_findApart_3 : decode cX8_findApart 3 = .ok (.istore 4, 2) := by decide +kernel
theorem dX8_findApart_5 : decode cX8_findApart 5 = .ok (.iload 4, 2) := by decide +kernel
theorem dX8_findApart_7 : decode cX8_findApart 7 = .ok (.aload_n 1, 1) := by decide +kernel
theorem dX8_findApart_8 : decode cX8_findApart 8 = .ok (.invokevirtual 270, 3) := by decide +kernel
theorem dX8_findApart_11 : decode cX8_findApart 11 = .ok (.if_icmp .ge 93, 3) := by decide +kernel
theorem dX8_findApart_14 : decode cX8_findApart 14 = .ok (.aload_n 1, 1) := by decide +kernel
theorem dX8_findApart_15 : decode cX8_findApart 15 = .ok (.iload 4, 2) := by decide +kernel
theorem dX8_findApart_17 : decode cX8_findApart 17 = .ok (.invokevirtual 120, 3) := by decide +kernel
theorem dX8_findApart_20 : decode cX8_findApart 20 = .ok (.ifCond .ne 6, 3) := by decide +kernel
theorem dX8_findApart_23 : decode cX8_findApart 23 = .ok (.goto 75, 3) := by decide +kernel
theorem dX8_findApart_26 : decode cX8_findApart 26 = .ok (.aload_n 0, 1) := by decide +kernel
theorem dX8_findApart_27 : decode cX8_findApart 27 = .ok (.getfield 16, 3) := by decide +kernel
theorem dX8_findApart_30 : decode cX8_findApart 30 = .ok (.aload_n 1, 1) := by decide +kernel
theorem dX8_findApart_31 : decode cX8_findApart 31 = .ok (.invokevirtual 152, 3) := by decide +kernel
theorem dX8_findApart_34 : decode cX8_findApart 34 = .ok (.aload_n 0, 1) := by decide +kernel
theorem dX8_findApart_35 : decode cX8_findApart 35 = .ok (.getfield 16, 3) := by decide +kernel
theorem dX8_findApart_38 : decode cX8_findApart 38 = .ok (.iload 4, 2) := by decide +kernel
theorem dX8_findApart_40 : decode cX8_findApart 40 = .ok (.iconst 0, 1) := by decide +kernel
theorem dX8_findApart_41 : decode cX8_findApart 41 = .ok (.invokevirtual 398, 3) := by decide +kernel
theorem dX8_findApart_44 : decode cX8_findApart 44 = .ok (.aload_n 0, 1) := by decide +kernel
theorem dX8_findApart_45 : decode cX8_findApart 45 = .ok (.getfield 16, 3) := by decide +kernel
theorem dX8_findApart_48 : decode cX8_findApart 48 = .ok (.iload 4, 2) := by decide +kernel
theorem dX8_findApart_50 : decode cX8_findApart 50 = .ok (.invokevirtual 402, 3) := by decide +kernel
theorem dX8_findApart_53 : decode cX8_findApart 53 = .ok (.aload_n 0, 1) := by decide +kernel
theorem dX8_findApart_54 : decode cX8_findApart 54 = .ok (.getfield 16, 3) := by decide +kernel
theorem dX8_findApart_57 : decode cX8_findApart 57 = .ok (.invokevirtual 236, 3) := by decide +kernel
theorem dX8_findApart_60 : decode cX8_findApart 60 = .ok (.istore 5, 2) := by decide +kernel
theorem dX8_findApart_62 : decode cX8_findApart 62 = .ok (.iload_n 2, 1) := by decide +kernel
theorem dX8_findApart_63 : decode cX8_findApart 63 = .ok (.iconst (-1), 1) := by decide +kernel
theorem dX8_findApart_64 : decode cX8_findApart 64 = .ok (.if_icmp .eq 29, 3) := by decide +kernel
theorem dX8_findApart_67 : decode cX8_findApart 67 = .ok (.iload_n 2, 1) := by decide +kernel
theorem dX8_findApart_68 : decode cX8_findApart 68 = .ok (.iload_n 3, 1) := by decide +kernel
theorem dX8_findApart_69 : decode cX8_findApart 69 = .ok (.isub, 1) := by decide +kernel
theorem dX8_findApart_70 : decode cX8_findApart 70 = .ok (.iload 5, 2) := by decide +kernel
theorem dX8_findApart_72 : decode cX8_findApart 72 = .ok (.if_icmp .ge 21, 3) := by decide +kernel
theorem dX8_findApart_75 : decode cX8_findApart 75 = .ok (.sipush 1000, 3) := by decide +kernel
theorem dX8_findApart_78 : decode cX8_findApart 78 = .ok (.iload 4, 2) := by decide +kernel
theorem dX8_findApart_80 : decode cX8_findApart 80 = .ok (.imul, 1) := by decide +kernel
theorem dX8_findApart_81 : decode cX8_findApart 81 = .ok (.aload_n 0, 1) := by decide +kernel
theorem dX8_findApart_82 : decode cX8_findApart 82 = .ok (.getfield 16, 3) := by decide +kernel
theorem dX8_findApart_85 : decode cX8_findApart 85 = .ok (.iload_n 2, 1) := by decide +kernel
theorem dX8_findApart_86 : decode cX8_findApart 86 = .ok (.iload_n 3, 1) := by decide +kernel
theorem dX8_findApart_87 : decode cX8_findApart 87 = .ok (.isub, 1) := by decide +kernel
theorem dX8_findApart_88 : decode cX8_findApart 88 = .ok (.invokevirtual 113, 3) := by decide +kernel
theorem dX8_findApart_91 : decode cX8_findApart 91 = .ok (.iadd, 1) := by decide +kernel
theorem dX8_findApart_92 : decode cX8_findApart 92 = .ok (.ireturn, 1) := by decide +kernel
theorem dX8_findApart_93 : decode cX8_findApart 93 = .ok (.iload_n 3, 1) := by decide +kernel
theorem dX8_findApart_94 : decode cX8_findApart 94 = .ok (.iload 5, 2) := by decide +kernel
theorem dX8_findApart_96 : decode cX8_findApart 96 = .ok (.iadd, 1) := by decide +kernel
theorem dX8_findApart_97 : decode cX8_findApart 97 = .ok (.istore_n 3, 1) := by decide +kernel
theorem dX8_findApart_98 : decode cX8_findApart 98 = .ok (.iinc 4 1, 3) := by decide +kernel
theorem dX8_findApart_101 : decode cX8_findApart 101 = .ok (.goto (-96), 3) := by decide +kernel
theorem dX8_findApart_104 : decode cX8_findApart 104 = .ok (.iload_n 2, 1) := by decide +kernel
theorem dX8_findApart_105 : decode cX8_findApart 105 = .ok (.iconst (-1), 1) := by decide +kernel
theorem dX8_findApart_106 : decode cX8_findApart 106 = .ok (.if_icmp .ne 7, 3) := by decide +kernel
theorem dX8_findApart_109 : decode cX8_findApart 109 = .ok (.iload_n 3, 1) := by decide +kernel
theorem dX8_findApart_110 : decode cX8_findApart 110 = .ok (.goto 4, 3) := by decide +kernel
theorem dX8_findApart_113 : decode cX8_findApart 113 = .ok (.iconst (-1), 1) := by decide +kernel
theorem dX8_findApart_114 : decode cX8_findApart 114 = .ok (.ireturn, 1) := by decide +kernel
theorem dX8_twosApartAcross_0 : decode cX8_twosApartAcross 0 = .ok (.iconst 0, 1) := by decide +kernel
theorem dX8_twosApartAcross_1 : decode cX8_twosApartAcross 1 = .ok (.istore_n 3, 1) := by decide +kernel
theorem dX8_twosApartAcross_2 : decode cX8_twosApartAcross 2 = .ok (.iconst 0, 1) := by decide +kernel
theorem dX8_twosApartAcross_3 : decode cX8_twosApartAcross 3 = .ok (.istore 4, 2) := by decide +kernel
theorem dX8_twosApartAcross_5 : decode cX8_twosApartAcross 5 = .ok (.iload 4, 2) := by decide +kernel
theorem dX8_twosApartAcross_7 : decode cX8_twosApartAcross 7 = .ok (.aload_n 1, 1) := by decide +kernel
theorem dX8_twosApartAcross_8 : decode cX8_twosApartAcross 8 = .ok (.invokevirtual 270, 3) := by decide +kernel
theorem dX8_twosApartAcross_11 : decode cX8_twosApartAcross 11 = .ok (.if_icmp .ge 46, 3) := by decide +kernel
theorem dX8_twosApartAcross_14 : decode cX8_twosApartAcross 14 = .ok (.aload_n 1, 1) := by decide +kernel
theorem dX8_twosApartAcross_15 : decode cX8_twosApartAcross 15 = .ok (.iload 4, 2) := by decide +kernel
theorem dX8_twosApartAcross_17 : decode cX8_twosApartAcross 17 = .ok (.invokevirtual 120, 3) := by decide +kernel
theorem dX8_twosApartAcross_20 : decode cX8_twosApartAcross 20 = .ok (.ifCond .eq 31, 3) := by decide +kernel
theorem dX8_twosApartAcross_23 : decode cX8_twosApartAcross 23 = .ok (.aload_n 0, 1) := by decide +kernel
theorem dX8_twosApartAcross_24 : decode cX8_twosApartAcross 24 = .ok (.getfield 16, 3) := by decide +kernel
theorem dX8_twosApartAcross_27 : decode cX8_twosApartAcross 27 = .ok (.aload_n 2, 1) := by decide +kernel
theorem dX8_twosApartAcross_28 : decode cX8_twosApartAcross 28 = .ok (.invokevirtual 152, 3) := by decide +kernel
theorem dX8_twosApartAcross_31 : decode cX8_twosApartAcross 31 = .ok (.aload_n 0, 1) := by decide +kernel
theorem dX8_twosApartAcross_32 : decode cX8_twosApartAcross 32 = .ok (.getfield 16, 3) := by decide +kernel
theorem dX8_twosApartAcross_35 : decode cX8_twosApartAcross 35 = .ok (.iload 4, 2) := by decide +kernel
theorem dX8_twosApartAcross_37 : decode cX8_twosApartAcross 37 = .ok (.iconst 0, 1) := by decide +kernel
theorem dX8_twosApartAcross_38 : decode cX8_twosApartAcross 38 = .ok (.invokevirtual 398, 3) := by decide +kernel
theorem dX8_twosApartAcross_41 : decode cX8_twosApartAcross 41 = .ok (.iload_n 3, 1) := by decide +kernel
theorem dX8_twosApartAcross_42 : decode cX8_twosApartAcross 42 = .ok (.aload_n 0, 1) := by decide +kernel
theorem dX8_twosApartAcross_43 : decode cX8_twosApartAcross 43 = .ok (.getfield 16, 3) := by decide +kernel
theorem dX8_twosApartAcross_46 : decode cX8_twosApartAcross 46 = .ok (.invokevirtual 236, 3) := by decide +kernel
theorem dX8_twosApartAcross_49 : decode cX8_twosApartAcross 49 = .ok (.iadd, 1) := by decide +kernel
theorem dX8_twosApartAcross_50 : decode cX8_twosApartAcross 50 = .ok (.istore_n 3, 1) := by decide +kernel
theorem dX8_twosApartAcross_51 : decode cX8_twosApartAcross 51 = .ok (.iinc 4 1, 3) := by decide +kernel
theorem dX8_twosApartAcross_54 : decode cX8_twosApartAcross 54 = .ok (.goto (-49), 3) := by decide +kernel
theorem dX8_twosApartAcross_57 : decode cX8_twosApartAcross 57 = .ok (.iload_n 3, 1) := by decide +kernel
theorem dX8_twosApartAcross_58 : decode cX8_twosApartAcross 58 = .ok (.ireturn, 1) := by decide +kernel
theorem dX8_namings_0 : decode cX8_namings 0 = .ok (.aload_n 0, 1) := by decide +kernel
theorem dX8_namings_1 : decode cX8_namings 1 = .ok (.getfield 16, 3) := by decide +kernel
theorem dX8_namings_4 : decode cX8_namings 4 = .ok (.aload_n 1, 1) := by decide +kernel
theorem dX8_namings_5 : decode cX8_namings 5 = .ok (.invokevirtual 152, 3) := by decide +kernel
theorem dX8_namings_8 : decode cX8_namings 8 = .ok (.aload_n 0, 1) := by decide +kernel
theorem dX8_namings_9 : decode cX8_namings 9 = .ok (.getfield 16, 3) := by decide +kernel
theorem dX8_namings_12 : decode cX8_namings 12 = .ok (.aload_n 2, 1) := by decide +kernel
theorem dX8_namings_13 : decode cX8_namings 13 = .ok (.invokevirtual 337, 3) := by decide +kernel
theorem dX8_namings_16 : decode cX8_namings 16 = .ok (.ifCond .eq 7, 3) := by decide +kernel
theorem dX8_namings_19 : decode cX8_namings 19 = .ok (.iconst 1, 1) := by decide +kernel
theorem dX8_namings_20 : decode cX8_namings 20 = .ok (.goto 4, 3) := by decide +kernel
theorem dX8_namings_23 : decode cX8_namings 23 = .ok (.iconst 0, 1) := by decide +kernel
theorem dX8_namings_24 : decode cX8_namings 24 = .ok (.istore_n 3, 1) := by decide +kernel
theorem dX8_namings_25 : decode cX8_namings 25 = .ok (.iconst 0, 1) := by decide +kernel
theorem dX8_namings_26 : decode cX8_namings 26 = .ok (.istore 4, 2) := by decide +kernel
theorem dX8_namings_28 : decode cX8_namings 28 = .ok (.iload 4, 2) := by decide +kernel
theorem dX8_namings_30 : decode cX8_namings 30 = .ok (.bipush 7, 2) := by decide +kernel
theorem dX8_namings_32 : decode cX8_namings 32 = .ok (.if_icmp .ge 17, 3) := by decide +kernel
theorem dX8_namings_35 : decode cX8_namings 35 = .ok (.aload_n 0, 1) := by decide +kernel
theorem dX8_namings_36 : decode cX8_namings 36 = .ok (.getfield 26, 3) := by decide +kernel
theorem dX8_namings_39 : decode cX8_namings 39 = .ok (.iload 4, 2) := by decide +kernel
theorem dX8_namings_41 : decode cX8_namings 41 = .ok (.iconst 0, 1) := by decide +kernel
theorem dX8_namings_42 : decode cX8_namings 42 = .ok (.iastore, 1) := by decide +kernel
theorem dX8_namings_43 : decode cX8_namings 43 = .ok (.iinc 4 1, 3) := by decide +kernel
theorem dX8_namings_46 : decode cX8_namings 46 = .ok (.goto (-18), 3) := by decide +kernel
theorem dX8_namings_49 : decode cX8_namings 49 = .ok (.iconst 1, 1) := by decide +kernel
theorem dX8_namings_50 : decode cX8_namings 50 = .ok (.istore 4, 2) := by decide +kernel
theorem dX8_namings_52 : decode cX8_namings 52 = .ok (.iconst 0, 1) := by decide +kernel
theorem dX8_namings_53 : decode cX8_namings 53 = .ok (.istore 5, 2) := by decide +kernel
theorem dX8_namings_55 : decode cX8_namings 55 = .ok (.iload 5, 2) := by decide +kernel
theorem dX8_namings_57 : decode cX8_namings 57 = .ok (.sipush 20000, 3) := by decide +kernel
theorem dX8_namings_60 : decode cX8_namings 60 = .ok (.if_icmp .ge 112, 3) := by decide +kernel
theorem dX8_namings_63 : decode cX8_namings 63 = .ok (.iload 4, 2) := by decide +kernel
theorem dX8_namings_65 : decode cX8_namings 65 = .ok (.aload_n 1, 1) := by decide +kernel
theorem dX8_namings_66 : decode cX8_namings 66 = .ok (.getfield 133, 3) := by decide +kernel
theorem dX8_namings_69 : decode cX8_namings 69 = .ok (.if_icmp .ge 103, 3) := by decide +kernel
theorem dX8_namings_72 : decode cX8_namings 72 = .ok (.aload_n 0, 1) := by decide +kernel
theorem dX8_namings_73 : decode cX8_namings 73 = .ok (.getfield 26, 3) := by decide +kernel
theorem dX8_namings_76 : decode cX8_namings 76 = .ok (.iload 4, 2) := by decide +kernel
theorem dX8_namings_78 : decode cX8_namings 78 = .ok (.iaload, 1) := by decide +kernel
theorem dX8_namings_79 : decode cX8_namings 79 = .ok (.iload 4, 2) := by decide +kernel
theorem dX8_namings_81 : decode cX8_namings 81 = .ok (.if_icmp .ge 74, 3) := by decide +kernel
theorem dX8_namings_84 : decode cX8_namings 84 = .ok (.aload_n 0, 1) := by decide +kernel
theorem dX8_namings_85 : decode cX8_namings 85 = .ok (.getfield 16, 3) := by decide +kernel
theorem dX8_namings_88 : decode cX8_namings 88 = .ok (.iload 4, 2) := by decide +kernel
theorem dX8_namings_90 : decode cX8_namings 90 = .ok (.iconst 2, 1) := by decide +kernel
theorem dX8_namings_91 : decode cX8_namings 91 = .ok (.irem, 1) := by decide +kernel
theorem dX8_namings_92 : decode cX8_namings 92 = .ok (.ifCond .ne 7, 3) := by decide +kernel
theorem dX8_namings_95 : decode cX8_namings 95 = .ok (.iconst 0, 1) := by decide +kernel
theorem dX8_namings_96 : decode cX8_namings 96 = .ok (.goto 10, 3) := by decide +kernel
theorem dX8_namings_99 : decode cX8_namings 99 = .ok (.aload_n 0, 1) := by decide +kernel
theorem dX8_namings_100 : decode cX8_namings 100 = .ok (.getfield 26, 3) := by decide +kernel
theorem dX8_namings_103 : decode cX8_namings 103 = .ok (.iload 4, 2) := by decide +kernel
theorem dX8_namings_105 : decode cX8_namings 105 = .ok (.iaload, 1) := by decide +kernel
theorem dX8_namings_106 : decode cX8_namings 106 = .ok (.iload 4, 2) := by decide +kernel
theorem dX8_namings_108 : decode cX8_namings 108 = .ok (.aload_n 0, 1) := by decide +kernel
theorem dX8_namings_109 : decode cX8_namings 109 = .ok (.getfield 20, 3) := by decide +kernel
theorem dX8_namings_112 : decode cX8_namings 112 = .ok (.aload_n 0, 1) := by decide +kernel
theorem dX8_namings_113 : decode cX8_namings 113 = .ok (.getfield 23, 3) := by decide +kernel
theorem dX8_namings_116 : decode cX8_namings 116 = .ok (.invokevirtual 406, 3) := by decide +kernel
theorem dX8_namings_119 : decode cX8_namings 119 = .ok (.iload_n 3, 1) := by decide +kernel
theorem dX8_namings_120 : decode cX8_namings 120 = .ok (.aload_n 0, 1) := by decide +kernel
theorem dX8_namings_121 : decode cX8_namings 121 = .ok (.getfield 16, 3) := by decide +kernel
theorem dX8_namings_124 : decode cX8_namings 124 = .ok (.aload_n 2, 1) := by decide +kernel
theorem dX8_namings_125 : decode cX8_namings 125 = .ok (.invokevirtual 337, 3) := by decide +kernel
theorem dX8_namings_128 : decode cX8_namings 128 = .ok (.ifCond .eq 7, 3) := by decide +kernel
theorem dX8_namings_131 : decode cX8_namings 131 = .ok (.iconst 1, 1) := by decide +kernel
theorem dX8_namings_132 : decode cX8_namings 132 = .ok (.goto 4, 3) := by decide +kernel
theorem dX8_namings_135 : decode cX8_namings 135 = .ok (.iconst 0, 1) := by decide +kernel
theorem dX8_namings_136 : decode cX8_namings 136 = .ok (.iadd, 1) := by decide +kernel
theorem dX8_namings_137 : decode cX8_namings 137 = .ok (.istore_n 3, 1) := by decide +kernel
theorem dX8_namings_138 : decode cX8_namings 138 = .ok (.aload_n 0, 1) := by decide +kernel
theorem dX8_namings_139 : decode cX8_namings 139 = .ok (.getfield 26, 3) := by decide +kernel
theorem dX8_namings_142 : decode cX8_namings 142 = .ok (.iload 4, 2) := by decide +kernel
theorem dX8_namings_144 : decode cX8_namings 144 = .ok (.dup2, 1) := by decide +kernel
theorem dX8_namings_145 : decode cX8_namings 145 = .ok (.iaload, 1) := by decide +kernel
theorem dX8_namings_146 : decode cX8_namings 146 = .ok (.iconst 1, 1) := by decide +kernel
theorem dX8_namings_147 : decode cX8_namings 147 = .ok (.iadd, 1) := by decide +kernel
theorem dX8_namings_148 : decode cX8_namings 148 = .ok (.iastore, 1) := by decide +kernel
theorem dX8_namings_149 : decode cX8_namings 149 = .ok (.iconst 1, 1) := by decide +kernel
theorem dX8_namings_150 : decode cX8_namings 150 = .ok (.istore 4, 2) := by decide +kernel
theorem dX8_namings_152 : decode cX8_namings 152 = .ok (.goto 14, 3) := by decide +kernel
theorem dX8_namings_155 : decode cX8_namings 155 = .ok (.aload_n 0, 1) := by decide +kernel
theorem dX8_namings_156 : decode cX8_namings 156 = .ok (.getfield 26, 3) := by decide +kernel
theorem dX8_namings_159 : decode cX8_namings 159 = .ok (.iload 4, 2) := by decide +kernel
theorem dX8_namings_161 : decode cX8_namings 161 = .ok (.iconst 0, 1) := by decide +kernel
theorem dX8_namings_162 : decode cX8_namings 162 = .ok (.iastore, 1) := by decide +kernel
theorem dX8_namings_163 : decode cX8_namings 163 = .ok (.iinc 4 1, 3) := by decide +kernel
theorem dX8_namings_166 : decode cX8_namings 166 = .ok (.iinc 5 1, 3) := by decide +kernel
theorem dX8_namings_169 : decode cX8_namings 169 = .ok (.goto (-114), 3) := by decide +kernel
theorem dX8_namings_172 : decode cX8_namings 172 = .ok (.iload_n 3, 1) := by decide +kernel
theorem dX8_namings_173 : decode cX8_namings 173 = .ok (.ireturn, 1) := by decide +kernel
theorem dX8_chainUpTo_0 : decode cX8_chainUpTo 0 = .ok (.aload_n 0, 1) := by decide +kernel
theorem dX8_chainUpTo_1 : decode cX8_chainUpTo 1 = .ok (.getfield 20, 3) := by decide +kernel
theorem dX8_chainUpTo_4 : decode cX8_chainUpTo 4 = .ok (.aload_n 1, 1) := by decide +kernel
theorem dX8_chainUpTo_5 : decode cX8_chainUpTo 5 = .ok (.invokevirtual 152, 3) := by decide +kernel
theorem dX8_chainUpTo_8 : decode cX8_chainUpTo 8 = .ok (.iconst 1, 1) := by decide +kernel
theorem dX8_chainUpTo_9 : decode cX8_chainUpTo 9 = .ok (.istore_n 3, 1) := by decide +kernel
theorem dX8_chainUpTo_10 : decode cX8_chainUpTo 10 = .ok (.iload_n 3, 1) := by decide +kernel
theorem dX8_chainUpTo_11 : decode cX8_chainUpTo 11 = .ok (.bipush 8, 2) := by decide +kernel
theorem dX8_chainUpTo_13 : decode cX8_chainUpTo 13 = .ok (.if_icmp .gt 44, 3) := by decide +kernel
theorem dX8_chainUpTo_16 : decode cX8_chainUpTo 16 = .ok (.aload_n 0, 1) := by decide +kernel
theorem dX8_chainUpTo_17 : decode cX8_chainUpTo 17 = .ok (.getfield 16, 3) := by decide +kernel
theorem dX8_chainUpTo_20 : decode cX8_chainUpTo 20 = .ok (.aload_n 0, 1) := by decide +kernel
theorem dX8_chainUpTo_21 : decode cX8_chainUpTo 21 = .ok (.getfield 20, 3) := by decide +kernel
theorem dX8_chainUpTo_24 : decode cX8_chainUpTo 24 = .ok (.invokevirtual 388, 3) := by decide +kernel
theorem dX8_chainUpTo_27 : decode cX8_chainUpTo 27 = .ok (.aload_n 0, 1) := by decide +kernel
theorem dX8_chainUpTo_28 : decode cX8_chainUpTo 28 = .ok (.getfield 16, 3) := by decide +kernel
theorem dX8_chainUpTo_31 : decode cX8_chainUpTo 31 = .ok (.iload_n 2, 1) := by decide +kernel
theorem dX8_chainUpTo_32 : decode cX8_chainUpTo 32 = .ok (.invokevirtual 120, 3) := by decide +kernel
theorem dX8_chainUpTo_35 : decode cX8_chainUpTo 35 = .ok (.ifCond .eq 5, 3) := by decide +kernel
theorem dX8_chainUpTo_38 : decode cX8_chainUpTo 38 = .ok (.iload_n 3, 1) := by decide +kernel
theorem dX8_chainUpTo_39 : decode cX8_chainUpTo 39 = .ok (.ireturn, 1) := by decide +kernel
theorem dX8_chainUpTo_40 : decode cX8_chainUpTo 40 = .ok (.aload_n 0, 1) := by decide +kernel
theorem dX8_chainUpTo_41 : decode cX8_chainUpTo 41 = .ok (.getfield 20, 3) := by decide +kernel
theorem dX8_chainUpTo_44 : decode cX8_chainUpTo 44 = .ok (.aload_n 0, 1) := by decide +kernel
theorem dX8_chainUpTo_45 : decode cX8_chainUpTo 45 = .ok (.getfield 16, 3) := by decide +kernel
theorem dX8_chainUpTo_48 : decode cX8_chainUpTo 48 = .ok (.invokevirtual 310, 3) := by decide +kernel
theorem dX8_chainUpTo_51 : decode cX8_chainUpTo 51 = .ok (.iinc 3 1, 3) := by decide +kernel
theorem dX8_chainUpTo_54 : decode cX8_chainUpTo 54 = .ok (.goto (-44), 3) := by decide +kernel
theorem dX8_chainUpTo_57 : decode cX8_chainUpTo 57 = .ok (.iconst (-1), 1) := by decide +kernel
theorem dX8_chainUpTo_58 : decode cX8_chainUpTo 58 = .ok (.ireturn, 1) := by decide +kernel
theorem dX8_joinsAcross_0 : decode cX8_joinsAcross 0 = .ok (.aload_n 0, 1) := by decide +kernel
theorem dX8_joinsAcross_1 : decode cX8_joinsAcross 1 = .ok (.getfield 16, 3) := by decide +kernel
theorem dX8_joinsAcross_4 : decode cX8_joinsAcross 4 = .ok (.aload_n 1, 1) := by decide +kernel
theorem dX8_joinsAcross_5 : decode cX8_joinsAcross 5 = .ok (.getfield 133, 3) := by decide +kernel
theorem dX8_joinsAcross_8 : decode cX8_joinsAcross 8 = .ok (.invokevirtual 146, 3) := by decide +kernel
theorem dX8_joinsAcross_11 : decode cX8_joinsAcross 11 = .ok (.iconst 0, 1) := by decide +kernel
theorem dX8_joinsAcross_12 : decode cX8_joinsAcross 12 = .ok (.istore_n 3, 1) := by decide +kernel
theorem dX8_joinsAcross_13 : decode cX8_joinsAcross 13 = .ok (.iload_n 3, 1) := by decide +kernel
theorem dX8_joinsAcross_14 : decode cX8_joinsAcross 14 = .ok (.aload_n 2, 1) := by decide +kernel
theorem dX8_joinsAcross_15 : decode cX8_joinsAcross 15 = .ok (.invokevirtual 270, 3) := by decide +kernel
theorem dX8_joinsAcross_18 : decode cX8_joinsAcross 18 = .ok (.if_icmp .ge 44, 3) := by decide +kernel
theorem dX8_joinsAcross_21 : decode cX8_joinsAcross 21 = .ok (.aload_n 2, 1) := by decide +kernel
theorem dX8_joinsAcross_22 : decode cX8_joinsAcross 22 = .ok (.iload_n 3, 1) := by decide +kernel
theorem dX8_joinsAcross_23 : decode cX8_joinsAcross 23 = .ok (.invokevirtual 120, 3) := by decide +kernel
theorem dX8_joinsAcross_26 : decode cX8_joinsAcross 26 = .ok (.ifCond .eq 30, 3) := by decide +kernel
theorem dX8_joinsAcross_29 : decode cX8_joinsAcross 29 = .ok (.aload_n 0, 1) := by decide +kernel
theorem dX8_joinsAcross_30 : decode cX8_joinsAcross 30 = .ok (.getfield 20, 3) := by decide +kernel
theorem dX8_joinsAcross_33 : decode cX8_joinsAcross 33 = .ok (.aload_n 1, 1) := by decide +kernel
theorem dX8_joinsAcross_34 : decode cX8_joinsAcross 34 = .ok (.invokevirtual 152, 3) := by decide +kernel
theorem dX8_joinsAcross_37 : decode cX8_joinsAcross 37 = .ok (.aload_n 0, 1) := by decide +kernel
theorem dX8_joinsAcross_38 : decode cX8_joinsAcross 38 = .ok (.getfield 20, 3) := by decide +kernel
theorem dX8_joinsAcross_41 : decode cX8_joinsAcross 41 = .ok (.iload_n 3, 1) := by decide +kernel
theorem dX8_joinsAcross_42 : decode cX8_joinsAcross 42 = .ok (.invokevirtual 410, 3) := by decide +kernel
theorem dX8_joinsAcross_45 : decode cX8_joinsAcross 45 = .ok (.aload_n 0, 1) := by decide +kernel
theorem dX8_joinsAcross_46 : decode cX8_joinsAcross 46 = .ok (.getfield 16, 3) := by decide +kernel
theorem dX8_joinsAcross_49 : decode cX8_joinsAcross 49 = .ok (.aload_n 0, 1) := by decide +kernel
theorem dX8_joinsAcross_50 : decode cX8_joinsAcross 50 = .ok (.getfield 20, 3) := by decide +kernel
theorem dX8_joinsAcross_53 : decode cX8_joinsAcross 53 = .ok (.invokevirtual 286, 3) := by decide +kernel
theorem dX8_joinsAcross_56 : decode cX8_joinsAcross 56 = .ok (.iinc 3 1, 3) := by decide +kernel
theorem dX8_joinsAcross_59 : decode cX8_joinsAcross 59 = .ok (.goto (-46), 3) := by decide +kernel
theorem dX8_joinsAcross_62 : decode cX8_joinsAcross 62 = .ok (.return_, 1) := by decide +kernel
theorem dX9_init_0 : decode cX9_init 0 = .ok (.aload_n 0, 1) := by decide +kernel
theorem dX9_init_1 : decode cX9_init 1 = .ok (.invokespecial 3, 3) := by decide +kernel
theorem dX9_init_4 : decode cX9_init 4 = .ok (.aload_n 0, 1) := by decide +kernel
