theorem dX0_init_0 : decode cX0_init 0 = .ok (.aload_n 0, 1) := by decide +kernel
theorem dX0_init_1 : decode cX0_init 1 = .ok (.invokespecial 3, 3) := by decide +kernel
theorem dX0_init_4 : decode cX0_init 4 = .ok (.return_, 1) := by decide +kernel
theorem dX0_isThere_0 : decode cX0_isThere 0 = .ok (.aload_n 0, 1) := by decide +kernel
theorem dX0_isThere_1 : decode cX0_isThere 1 = .ok (.getfield 9, 3) := by decide +kernel
theorem dX0_isThere_4 : decode cX0_isThere 4 = .ok (.ifCond .le 7, 3) := by decide +kernel
theorem dX0_isThere_7 : decode cX0_isThere 7 = .ok (.iconst 1, 1) := by decide +kernel
theorem dX0_isThere_8 : decode cX0_isThere 8 = .ok (.goto 4, 3) := by decide +kernel
theorem dX0_isThere_11 : decode cX0_isThere 11 = .ok (.iconst 0, 1) := by decide +kernel
theorem dX0_isThere_12 : decode cX0_isThere 12 = .ok (.ireturn, 1) := by decide +kernel
theorem dX0_isEmpty_0 : decode cX0_isEmpty 0 = .ok (.aload_n 0, 1) := by decide +kernel
theorem dX0_isEmpty_1 : decode cX0_isEmpty 1 = .ok (.getfield 15, 3) := by decide +kernel
theorem dX0_isEmpty_4 : decode cX0_isEmpty 4 = .ok (.aload_n 0, 1) := by decide +kernel
theorem dX0_isEmpty_5 : decode cX0_isEmpty 5 = .ok (.getfield 19, 3) := by decide +kernel
theorem dX0_isEmpty_8 : decode cX0_isEmpty 8 = .ok (.lor, 1) := by decide +kernel
theorem dX0_isEmpty_9 : decode cX0_isEmpty 9 = .ok (.lconst 0, 1) := by decide +kernel
theorem dX0_isEmpty_10 : decode cX0_isEmpty 10 = .ok (.lcmp, 1) := by decide +kernel
theorem dX0_isEmpty_11 : decode cX0_isEmpty 11 = .ok (.ifCond .ne 7, 3) := by decide +kernel
theorem dX0_isEmpty_14 : decode cX0_isEmpty 14 = .ok (.iconst 1, 1) := by decide +kernel
theorem dX0_isEmpty_15 : decode cX0_isEmpty 15 = .ok (.goto 4, 3) := by decide +kernel
theorem dX0_isEmpty_18 : decode cX0_isEmpty 18 = .ok (.iconst 0, 1) := by decide +kernel
theorem dX0_isEmpty_19 : decode cX0_isEmpty 19 = .ok (.ireturn, 1) := by decide +kernel
theorem dX0_isSameAs_0 : decode cX0_isSameAs 0 = .ok (.aload_n 0, 1) := by decide +kernel
theorem dX0_isSameAs_1 : decode cX0_isSameAs 1 = .ok (.getfield 9, 3) := by decide +kernel
theorem dX0_isSameAs_4 : decode cX0_isSameAs 4 = .ok (.aload_n 1, 1) := by decide +kernel
theorem dX0_isSameAs_5 : decode cX0_isSameAs 5 = .ok (.getfield 9, 3) := by decide +kernel
theorem dX0_isSameAs_8 : decode cX0_isSameAs 8 = .ok (.if_icmp .ne 31, 3) := by decide +kernel
theorem dX0_isSameAs_11 : decode cX0_isSameAs 11 = .ok (.aload_n 0, 1) := by decide +kernel
theorem dX0_isSameAs_12 : decode cX0_isSameAs 12 = .ok (.getfield 15, 3) := by decide +kernel
theorem dX0_isSameAs_15 : decode cX0_isSameAs 15 = .ok (.aload_n 1, 1) := by decide +kernel
theorem dX0_isSameAs_16 : decode cX0_isSameAs 16 = .ok (.getfield 15, 3) := by decide +kernel
theorem dX0_isSameAs_19 : decode cX0_isSameAs 19 = .ok (.lcmp, 1) := by decide +kernel
theorem dX0_isSameAs_20 : decode cX0_isSameAs 20 = .ok (.ifCond .ne 19, 3) := by decide +kernel
theorem dX0_isSameAs_23 : decode cX0_isSameAs 23 = .ok (.aload_n 0, 1) := by decide +kernel
theorem dX0_isSameAs_24 : decode cX0_isSameAs 24 = .ok (.getfield 19, 3) := by decide +kernel
theorem dX0_isSameAs_27 : decode cX0_isSameAs 27 = .ok (.aload_n 1, 1) := by decide +kernel
theorem dX0_isSameAs_28 : decode cX0_isSameAs 28 = .ok (.getfield 19, 3) := by decide +kernel
theorem dX0_isSameAs_31 : decode cX0_isSameAs 31 = .ok (.lcmp, 1) := by decide +kernel
theorem dX0_isSameAs_32 : decode cX0_isSameAs 32 = .ok (.ifCond .ne 7, 3) := by decide +kernel
theorem dX0_isSameAs_35 : decode cX0_isSameAs 35 = .ok (.iconst 1, 1) := by decide +kernel
theorem dX0_isSameAs_36 : decode cX0_isSameAs 36 = .ok (.goto 4, 3) := by decide +kernel
theorem dX0_isSameAs_39 : decode cX0_isSameAs 39 = .ok (.iconst 0, 1) := by decide +kernel
theorem dX0_isSameAs_40 : decode cX0_isSameAs 40 = .ok (.ireturn, 1) := by decide +kernel
theorem dX0_knows_0 : decode cX0_knows 0 = .ok (.iload_n 1, 1) := by decide +kernel
theorem dX0_knows_1 : decode cX0_knows 1 = .ok (.ifCond .lt 15, 3) := by decide +kernel
theorem dX0_knows_4 : decode cX0_knows 4 = .ok (.iload_n 1, 1) := by decide +kernel
theorem dX0_knows_5 : decode cX0_knows 5 = .ok (.aload_n 0, 1) := by decide +kernel
theorem dX0_knows_6 : decode cX0_knows 6 = .ok (.invokevirtual 22, 3) := by decide +kernel
theorem dX0_knows_9 : decode cX0_knows 9 = .ok (.if_icmp .ge 7, 3) := by decide +kernel
theorem dX0_knows_12 : decode cX0_knows 12 = .ok (.iconst 1, 1) := by decide +kernel
theorem dX0_knows_13 : decode cX0_knows 13 = .ok (.goto 4, 3) := by decide +kernel
theorem dX0_knows_16 : decode cX0_knows 16 = .ok (.iconst 0, 1) := by decide +kernel
theorem dX0_knows_17 : decode cX0_knows 17 = .ok (.ireturn, 1) := by decide +kernel
theorem dX0_knowsPoint_0 : decode cX0_knowsPoint 0 = .ok (.iload_n 1, 1) := by decide +kernel
theorem dX0_knowsPoint_1 : decode cX0_knowsPoint 1 = .ok (.ifCond .lt 15, 3) := by decide +kernel
theorem dX0_knowsPoint_4 : decode cX0_knowsPoint 4 = .ok (.iload_n 1, 1) := by decide +kernel
theorem dX0_knowsPoint_5 : decode cX0_knowsPoint 5 = .ok (.aload_n 0, 1) := by decide +kernel
theorem dX0_knowsPoint_6 : decode cX0_knowsPoint 6 = .ok (.getfield 9, 3) := by decide +kernel
theorem dX0_knowsPoint_9 : decode cX0_knowsPoint 9 = .ok (.if_icmp .ge 7, 3) := by decide +kernel
theorem dX0_knowsPoint_12 : decode cX0_knowsPoint 12 = .ok (.iconst 1, 1) := by decide +kernel
theorem dX0_knowsPoint_13 : decode cX0_knowsPoint 13 = .ok (.goto 4, 3) := by decide +kernel
theorem dX0_knowsPoint_16 : decode cX0_knowsPoint 16 = .ok (.iconst 0, 1) := by decide +kernel
theorem dX0_knowsPoint_17 : decode cX0_knowsPoint 17 = .ok (.ireturn, 1) := by decide +kernel
theorem dX0_holds_0 : decode cX0_holds 0 = .ok (.iload_n 1, 1) := by decide +kernel
theorem dX0_holds_1 : decode cX0_holds 1 = .ok (.bipush 64, 2) := by decide +kernel
theorem dX0_holds_3 : decode cX0_holds 3 = .ok (.if_icmp .ge 10, 3) := by decide +kernel
theorem dX0_holds_6 : decode cX0_holds 6 = .ok (.aload_n 0, 1) := by decide +kernel
theorem dX0_holds_7 : decode cX0_holds 7 = .ok (.getfield 15, 3) := by decide +kernel
theorem dX0_holds_10 : decode cX0_holds 10 = .ok (.goto 7, 3) := by decide +kernel
theorem dX0_holds_13 : decode cX0_holds 13 = .ok (.aload_n 0, 1) := by decide +kernel
theorem dX0_holds_14 : decode cX0_holds 14 = .ok (.getfield 19, 3) := by decide +kernel
theorem dX0_holds_17 : decode cX0_holds 17 = .ok (.lstore_n 2, 1) := by decide +kernel
theorem dX0_holds_18 : decode cX0_holds 18 = .ok (.lload_n 2, 1) := by decide +kernel
theorem dX0_holds_19 : decode cX0_holds 19 = .ok (.iload_n 1, 1) := by decide +kernel
theorem dX0_holds_20 : decode cX0_holds 20 = .ok (.bipush 63, 2) := by decide +kernel
theorem dX0_holds_22 : decode cX0_holds 22 = .ok (.iand, 1) := by decide +kernel
theorem dX0_holds_23 : decode cX0_holds 23 = .ok (.lushr, 1) := by decide +kernel
theorem dX0_holds_24 : decode cX0_holds 24 = .ok (.lconst 1, 1) := by decide +kernel
theorem dX0_holds_25 : decode cX0_holds 25 = .ok (.land, 1) := by decide +kernel
theorem dX0_holds_26 : decode cX0_holds 26 = .ok (.lconst 1, 1) := by decide +kernel
theorem dX0_holds_27 : decode cX0_holds 27 = .ok (.lcmp, 1) := by decide +kernel
theorem dX0_holds_28 : decode cX0_holds 28 = .ok (.ifCond .ne 7, 3) := by decide +kernel
theorem dX0_holds_31 : decode cX0_holds 31 = .ok (.iconst 1, 1) := by decide +kernel
theorem dX0_holds_32 : decode cX0_holds 32 = .ok (.goto 4, 3) := by decide +kernel
theorem dX0_holds_35 : decode cX0_holds 35 = .ok (.iconst 0, 1) := by decide +kernel
theorem dX0_holds_36 : decode cX0_holds 36 = .ok (.ireturn, 1) := by decide +kernel
theorem dX0_span_0 : decode cX0_span 0 = .ok (.iconst 1, 1) := by decide +kernel
theorem dX0_span_1 : decode cX0_span 1 = .ok (.aload_n 0, 1) := by decide +kernel
theorem dX0_span_2 : decode cX0_span 2 = .ok (.getfield 9, 3) := by decide +kernel
theorem dX0_span_5 : decode cX0_span 5 = .ok (.ishl, 1) := by decide +kernel
theorem dX0_span_6 : decode cX0_span 6 = .ok (.ireturn, 1) := by decide +kernel
theorem dX0_size_0 : decode cX0_size 0 = .ok (.aload_n 0, 1) := by decide +kernel
theorem dX0_size_1 : decode cX0_size 1 = .ok (.getfield 15, 3) := by decide +kernel
theorem dX0_size_4 : decode cX0_size 4 = .ok (.invokestatic 26, 3) := by decide +kernel
theorem dX0_size_7 : decode cX0_size 7 = .ok (.aload_n 0, 1) := by decide +kernel
theorem dX0_size_8 : decode cX0_size 8 = .ok (.getfield 19, 3) := by decide +kernel
theorem dX0_size_11 : decode cX0_size 11 = .ok (.invokestatic 26, 3) := by decide +kernel
theorem dX0_size_14 : decode cX0_size 14 = .ok (.iadd, 1) := by decide +kernel
theorem dX0_size_15 : decode cX0_size 15 = .ok (.ireturn, 1) := by decide +kernel
theorem dX0_sizeOfLevel_0 : decode cX0_sizeOfLevel 0 = .ok (.iconst 0, 1) := by decide +kernel
theorem dX0_sizeOfLevel_1 : decode cX0_sizeOfLevel 1 = .ok (.istore_n 2, 1) := by decide +kernel
theorem dX0_sizeOfLevel_2 : decode cX0_sizeOfLevel 2 = .ok (.iconst 0, 1) := by decide +kernel
theorem dX0_sizeOfLevel_3 : decode cX0_sizeOfLevel 3 = .ok (.istore_n 3, 1) := by decide +kernel
theorem dX0_sizeOfLevel_4 : decode cX0_sizeOfLevel 4 = .ok (.iload_n 3, 1) := by decide +kernel
theorem dX0_sizeOfLevel_5 : decode cX0_sizeOfLevel 5 = .ok (.aload_n 0, 1) := by decide +kernel
theorem dX0_sizeOfLevel_6 : decode cX0_sizeOfLevel 6 = .ok (.invokevirtual 22, 3) := by decide +kernel
theorem dX0_sizeOfLevel_9 : decode cX0_sizeOfLevel 9 = .ok (.if_icmp .ge 28, 3) := by decide +kernel
theorem dX0_sizeOfLevel_12 : decode cX0_sizeOfLevel 12 = .ok (.iload_n 3, 1) := by decide +kernel
theorem dX0_sizeOfLevel_13 : decode cX0_sizeOfLevel 13 = .ok (.invokestatic 32, 3) := by decide +kernel
theorem dX0_sizeOfLevel_16 : decode cX0_sizeOfLevel 16 = .ok (.iload_n 1, 1) := by decide +kernel
theorem dX0_sizeOfLevel_17 : decode cX0_sizeOfLevel 17 = .ok (.if_icmp .ne 14, 3) := by decide +kernel
theorem dX0_sizeOfLevel_20 : decode cX0_sizeOfLevel 20 = .ok (.aload_n 0, 1) := by decide +kernel
theorem dX0_sizeOfLevel_21 : decode cX0_sizeOfLevel 21 = .ok (.iload_n 3, 1) := by decide +kernel
theorem dX0_sizeOfLevel_22 : decode cX0_sizeOfLevel 22 = .ok (.invokevirtual 37, 3) := by decide +kernel
theorem dX0_sizeOfLevel_25 : decode cX0_sizeOfLevel 25 = .ok (.ifCond .eq 6, 3) := by decide +kernel
theorem dX0_sizeOfLevel_28 : decode cX0_sizeOfLevel 28 = .ok (.iinc 2 1, 3) := by decide +kernel
theorem dX0_sizeOfLevel_31 : decode cX0_sizeOfLevel 31 = .ok (.iinc 3 1, 3) := by decide +kernel
theorem dX0_sizeOfLevel_34 : decode cX0_sizeOfLevel 34 = .ok (.goto (-30), 3) := by decide +kernel
theorem dX0_sizeOfLevel_37 : decode cX0_sizeOfLevel 37 = .ok (.iload_n 2, 1) := by decide +kernel
theorem dX0_sizeOfLevel_38 : decode cX0_sizeOfLevel 38 = .ok (.ireturn, 1) := by decide +kernel
theorem dX0_degreeOf_0 : decode cX0_degreeOf 0 = .ok (.aload_n 0, 1) := by decide +kernel
theorem dX0_degreeOf_1 : decode cX0_degreeOf 1 = .ok (.getfield 15, 3) := by decide +kernel
theorem dX0_degreeOf_4 : decode cX0_degreeOf 4 = .ok (.getstatic 41, 3) := by decide +kernel
theorem dX0_degreeOf_7 : decode cX0_degreeOf 7 = .ok (.iload_n 1, 1) := by decide +kernel
theorem dX0_degreeOf_8 : decode cX0_degreeOf 8 = .ok (.laload, 1) := by decide +kernel
theorem dX0_degreeOf_9 : decode cX0_degreeOf 9 = .ok (.land, 1) := by decide +kernel
theorem dX0_degreeOf_10 : decode cX0_degreeOf 10 = .ok (.invokestatic 26, 3) := by decide +kernel
theorem dX0_degreeOf_13 : decode cX0_degreeOf 13 = .ok (.aload_n 0, 1) := by decide +kernel
theorem dX0_degreeOf_14 : decode cX0_degreeOf 14 = .ok (.getfield 19, 3) := by decide +kernel
theorem dX0_degreeOf_17 : decode cX0_degreeOf 17 = .ok (.getstatic 45, 3) := by decide +kernel
theorem dX0_degreeOf_20 : decode cX0_degreeOf 20 = .ok (.iload_n 1, 1) := by decide +kernel
theorem dX0_degreeOf_21 : decode cX0_degreeOf 21 = .ok (.laload, 1) := by decide +kernel
theorem dX0_degreeOf_22 : decode cX0_degreeOf 22 = .ok (.land, 1) := by decide +kernel
theorem dX0_degreeOf_23 : decode cX0_degreeOf 23 = .ok (.invokestatic 26, 3) := by decide +kernel
theorem dX0_degreeOf_26 : decode cX0_degreeOf 26 = .ok (.iadd, 1) := by decide +kernel
theorem dX0_degreeOf_27 : decode cX0_degreeOf 27 = .ok (.ireturn, 1) := by decide +kernel
theorem dX0_pick_0 : decode cX0_pick 0 = .ok (.iconst 0, 1) := by decide +kernel
theorem dX0_pick_1 : decode cX0_pick 1 = .ok (.istore_n 2, 1) := by decide +kernel
theorem dX0_pick_2 : decode cX0_pick 2 = .ok (.iconst 0, 1) := by decide +kernel
theorem dX0_pick_3 : decode cX0_pick 3 = .ok (.istore_n 3, 1) := by decide +kernel
theorem dX0_pick_4 : decode cX0_pick 4 = .ok (.iload_n 3, 1) := by decide +kernel
theorem dX0_pick_5 : decode cX0_pick 5 = .ok (.aload_n 0, 1) := by decide +kernel
theorem dX0_pick_6 : decode cX0_pick 6 = .ok (.invokevirtual 22, 3) := by decide +kernel
theorem dX0_pick_9 : decode cX0_pick 9 = .ok (.if_icmp .ge 27, 3) := by decide +kernel
theorem dX0_pick_12 : decode cX0_pick 12 = .ok (.aload_n 0, 1) := by decide +kernel
theorem dX0_pick_13 : decode cX0_pick 13 = .ok (.iload_n 3, 1) := by decide +kernel
theorem dX0_pick_14 : decode cX0_pick 14 = .ok (.invokevirtual 37, 3) := by decide +kernel
theorem dX0_pick_17 : decode cX0_pick 17 = .ok (.ifCond .eq 13, 3) := by decide +kernel
theorem dX0_pick_20 : decode cX0_pick 20 = .ok (.iload_n 2, 1) := by decide +kernel
theorem dX0_pick_21 : decode cX0_pick 21 = .ok (.iload_n 1, 1) := by decide +kernel
theorem dX0_pick_22 : decode cX0_pick 22 = .ok (.if_icmp .ne 5, 3) := by decide +kernel
theorem dX0_pick_25 : decode cX0_pick 25 = .ok (.iload_n 3, 1) := by decide +kernel
theorem dX0_pick_26 : decode cX0_pick 26 = .ok (.ireturn, 1) := by decide +kernel
theorem dX0_pick_27 : decode cX0_pick 27 = .ok (.iinc 2 1, 3) := by decide +kernel
theorem dX0_pick_30 : decode cX0_pick 30 = .ok (.iinc 3 1, 3) := by decide +kernel
theorem dX0_pick_33 : decode cX0_pick 33 = .ok (.goto (-29), 3) := by decide +kernel
theorem dX0_pick_36 : decode cX0_pick 36 = .ok (.iconst (-1), 1) := by decide +kernel
theorem dX0_pick_37 : decode cX0_pick 37 = .ok (.ireturn, 1) := by decide +kernel
theorem dX0_leastLevel_0 : decode cX0_leastLevel 0 = .ok (.iconst 0, 1) := by decide +kernel
theorem dX0_leastLevel_1 : decode cX0_leastLevel 1 = .ok (.istore_n 1, 1) := by decide +kernel
theorem dX0_leastLevel_2 : decode cX0_leastLevel 2 = .ok (.iload_n 1, 1) := by decide +kernel
theorem dX0_leastLevel_3 : decode cX0_leastLevel 3 = .ok (.aload_n 0, 1) := by decide +kernel
theorem dX0_leastLevel_4 : decode cX0_leastLevel 4 = .ok (.getfield 9, 3) := by decide +kernel
theorem dX0_leastLevel_7 : decode cX0_leastLevel 7 = .ok (.if_icmp .gt 20, 3) := by decide +kernel
theorem dX0_leastLevel_10 : decode cX0_leastLevel 10 = .ok (.aload_n 0, 1) := by decide +kernel
theorem dX0_leastLevel_11 : decode cX0_leastLevel 11 = .ok (.iload_n 1, 1) := by decide +kernel
theorem dX0_leastLevel_12 : decode cX0_leastLevel 12 = .ok (.invokevirtual 48, 3) := by decide +kernel
theorem dX0_leastLevel_15 : decode cX0_leastLevel 15 = .ok (.iconst (-1), 1) := by decide +kernel
theorem dX0_leastLevel_16 : decode cX0_leastLevel 16 = .ok (.if_icmp .eq 5, 3) := by decide +kernel
theorem dX0_leastLevel_19 : decode cX0_leastLevel 19 = .ok (.iload_n 1, 1) := by decide +kernel
theorem dX0_leastLevel_20 : decode cX0_leastLevel 20 = .ok (.ireturn, 1) := by decide +kernel
theorem dX0_leastLevel_21 : decode cX0_leastLevel 21 = .ok (.iinc 1 1, 3) := by decide +kernel
theorem dX0_leastLevel_24 : decode cX0_leastLevel 24 = .ok (.goto (-22), 3) := by decide +kernel
theorem dX0_leastLevel_27 : decode cX0_leastLevel 27 = .ok (.iconst (-1), 1) := by decide +kernel
theorem dX0_leastLevel_28 : decode cX0_leastLevel 28 = .ok (.ireturn, 1) := by decide +kernel
theorem dX0_greatestLevel_0 : decode cX0_greatestLevel 0 = .ok (.aload_n 0, 1) := by decide +kernel
theorem dX0_greatestLevel_1 : decode cX0_greatestLevel 1 = .ok (.getfield 9, 3) := by decide +kernel
theorem dX0_greatestLevel_4 : decode cX0_greatestLevel 4 = .ok (.istore_n 1, 1) := by decide +kernel
theorem dX0_greatestLevel_5 : decode cX0_greatestLevel 5 = .ok (.iload_n 1, 1) := by decide +kernel
theorem dX0_greatestLevel_6 : decode cX0_greatestLevel 6 = .ok (.ifCond .lt 20, 3) := by decide +kernel
theorem dX0_greatestLevel_9 : decode cX0_greatestLevel 9 = .ok (.aload_n 0, 1) := by decide +kernel
theorem dX0_greatestLevel_10 : decode cX0_greatestLevel 10 = .ok (.iload_n 1, 1) := by decide +kernel
theorem dX0_greatestLevel_11 : decode cX0_greatestLevel 11 = .ok (.invokevirtual 48, 3) := by decide +kernel
theorem dX0_greatestLevel_14 : decode cX0_greatestLevel 14 = .ok (.iconst (-1), 1) := by decide +kernel
theorem dX0_greatestLevel_15 : decode cX0_greatestLevel 15 = .ok (.if_icmp .eq 5, 3) := by decide +kernel
theorem dX0_greatestLevel_18 : decode cX0_greatestLevel 18 = .ok (.iload_n 1, 1) := by decide +kernel
theorem dX0_greatestLevel_19 : decode cX0_greatestLevel 19 = .ok (.ireturn, 1) := by decide +kernel
theorem dX0_greatestLevel_20 : decode cX0_greatestLevel 20 = .ok (.iinc 1 (-1), 3) := by decide +kernel
theorem dX0_greatestLevel_23 : decode cX0_greatestLevel 23 = .ok (.goto (-18), 3) := by decide +kernel
theorem dX0_greatestLevel_26 : decode cX0_greatestLevel 26 = .ok (.iconst (-1), 1) := by decide +kernel
theorem dX0_greatestLevel_27 : decode cX0_greatestLevel 27 = .ok (.ireturn, 1) := by decide +kernel
theorem dX0_firstOfLevel_0 : decode cX0_firstOfLevel 0 = .ok (.iconst 0, 1) := by decide +kernel
theorem dX0_firstOfLevel_1 : decode cX0_firstOfLevel 1 = .ok (.istore_n 2, 1) := by decide +kernel
theorem dX0_firstOfLevel_2 : decode cX0_firstOfLevel 2 = .ok (.iload_n 2, 1) := by decide +kernel
theorem dX0_firstOfLevel_3 : decode cX0_firstOfLevel 3 = .ok (.aload_n 0, 1) := by decide +kernel
theorem dX0_firstOfLevel_4 : decode cX0_firstOfLevel 4 = .ok (.invokevirtual 22, 3) := by decide +kernel
theorem dX0_firstOfLevel_7 : decode cX0_firstOfLevel 7 = .ok (.if_icmp .ge 27, 3) := by decide +kernel
theorem dX0_firstOfLevel_10 : decode cX0_firstOfLevel 10 = .ok (.iload_n 2, 1) := by decide +kernel
theorem dX0_firstOfLevel_11 : decode cX0_firstOfLevel 11 = .ok (.invokestatic 32, 3) := by decide +kernel
theorem dX0_firstOfLevel_14 : decode cX0_firstOfLevel 14 = .ok (.iload_n 1, 1) := by decide +kernel
theorem dX0_firstOfLevel_15 : decode cX0_firstOfLevel 15 = .ok (.if_icmp .ne 13, 3) := by decide +kernel
theorem dX0_firstOfLevel_18 : decode cX0_firstOfLevel 18 = .ok (.aload_n 0, 1) := by decide +kernel
theorem dX0_firstOfLevel_19 : decode cX0_firstOfLevel 19 = .ok (.iload_n 2, 1) := by decide +kernel
theorem dX0_firstOfLevel_20 : decode cX0_firstOfLevel 20 = .ok (.invokevirtual 37, 3) := by decide +kernel
theorem dX0_firstOfLevel_23 : decode cX0_firstOfLevel 23 = .ok (.ifCond .eq 5, 3) := by decide +kernel
theorem dX0_firstOfLevel_26 : decode cX0_firstOfLevel 26 = .ok (.iload_n 2, 1) := by decide +kernel
theorem dX0_firstOfLevel_27 : decode cX0_firstOfLevel 27 = .ok (.ireturn, 1) := by decide +kernel
theorem dX0_firstOfLevel_28 : decode cX0_firstOfLevel 28 = .ok (.iinc 2 1, 3) := by decide +kernel
theorem dX0_firstOfLevel_31 : decode cX0_firstOfLevel 31 = .ok (.goto (-29), 3) := by decide +kernel
theorem dX0_firstOfLevel_34 : decode cX0_firstOfLevel 34 = .ok (.iconst (-1), 1) := by decide +kernel
theorem dX0_firstOfLevel_35 : decode cX0_firstOfLevel 35 = .ok (.ireturn, 1) := by decide +kernel
theorem dX0_pointsOfSome_0 : decode cX0_pointsOfSome 0 = .ok (.iconst 0, 1) := by decide +kernel
theorem dX0_pointsOfSome_1 : decode cX0_pointsOfSome 1 = .ok (.istore_n 1, 1) := by decide +kernel
theorem dX0_pointsOfSome_2 : decode cX0_pointsOfSome 2 = .ok (.iconst 0, 1) := by decide +kernel
theorem dX0_pointsOfSome_3 : decode cX0_pointsOfSome 3 = .ok (.istore_n 2, 1) := by decide +kernel
theorem dX0_pointsOfSome_4 : decode cX0_pointsOfSome 4 = .ok (.iload_n 2, 1) := by decide +kernel
theorem dX0_pointsOfSome_5 : decode cX0_pointsOfSome 5 = .ok (.aload_n 0, 1) := by decide +kernel
theorem dX0_pointsOfSome_6 : decode cX0_pointsOfSome 6 = .ok (.getfield 9, 3) := by decide +kernel
theorem dX0_pointsOfSome_9 : decode cX0_pointsOfSome 9 = .ok (.if_icmp .ge 23, 3) := by decide +kernel
theorem dX0_pointsOfSome_12 : decode cX0_pointsOfSome 12 = .ok (.aload_n 0, 1) := by decide +kernel
theorem dX0_pointsOfSome_13 : decode cX0_pointsOfSome 13 = .ok (.iload_n 2, 1) := by decide +kernel
theorem dX0_pointsOfSome_14 : decode cX0_pointsOfSome 14 = .ok (.invokevirtual 51, 3) := by decide +kernel
theorem dX0_pointsOfSome_17 : decode cX0_pointsOfSome 17 = .ok (.ifCond .le 9, 3) := by decide +kernel
theorem dX0_pointsOfSome_20 : decode cX0_pointsOfSome 20 = .ok (.iload_n 1, 1) := by decide +kernel
theorem dX0_pointsOfSome_21 : decode cX0_pointsOfSome 21 = .ok (.iconst 1, 1) := by decide +kernel
theorem dX0_pointsOfSome_22 : decode cX0_pointsOfSome 22 = .ok (.iload_n 2, 1) := by decide +kernel
theorem dX0_pointsOfSome_23 : decode cX0_pointsOfSome 23 = .ok (.ishl, 1) := by decide +kernel
theorem dX0_pointsOfSome_24 : decode cX0_pointsOfSome 24 = .ok (.ior, 1) := by decide +kernel
theorem dX0_pointsOfSome_25 : decode cX0_pointsOfSome 25 = .ok (.istore_n 1, 1) := by decide +kernel
theorem dX0_pointsOfSome_26 : decode cX0_pointsOfSome 26 = .ok (.iinc 2 1, 3) := by decide +kernel
theorem dX0_pointsOfSome_29 : decode cX0_pointsOfSome 29 = .ok (.goto (-25), 3) := by decide +kernel
theorem dX0_pointsOfSome_32 : decode cX0_pointsOfSome 32 = .ok (.iload_n 1, 1) := by decide +kernel
theorem dX0_pointsOfSome_33 : decode cX0_pointsOfSome 33 = .ok (.ireturn, 1) := by decide +kernel
theorem dX0_pointsOfAll_0 : decode cX0_pointsOfAll 0 = .ok (.iconst 0, 1) := by decide +kernel
theorem dX0_pointsOfAll_1 : decode cX0_pointsOfAll 1 = .ok (.istore_n 1, 1) := by decide +kernel
theorem dX0_pointsOfAll_2 : decode cX0_pointsOfAll 2 = .ok (.iconst 0, 1) := by decide +kernel
theorem dX0_pointsOfAll_3 : decode cX0_pointsOfAll 3 = .ok (.istore_n 2, 1) := by decide +kernel
theorem dX0_pointsOfAll_4 : decode cX0_pointsOfAll 4 = .ok (.iload_n 2, 1) := by decide +kernel
theorem dX0_pointsOfAll_5 : decode cX0_pointsOfAll 5 = .ok (.aload_n 0, 1) := by decide +kernel
theorem dX0_pointsOfAll_6 : decode cX0_pointsOfAll 6 = .ok (.getfield 9, 3) := by decide +kernel
theorem dX0_pointsOfAll_9 : decode cX0_pointsOfAll 9 = .ok (.if_icmp .ge 27, 3) := by decide +kernel
theorem dX0_pointsOfAll_12 : decode cX0_pointsOfAll 12 = .ok (.aload_n 0, 1) := by decide +kernel
theorem dX0_pointsOfAll_13 : decode cX0_pointsOfAll 13 = .ok (.iload_n 2, 1) := by decide +kernel
theorem dX0_pointsOfAll_14 : decode cX0_pointsOfAll 14 = .ok (.invokevirtual 51, 3) := by decide +kernel
theorem dX0_pointsOfAll_17 : decode cX0_pointsOfAll 17 = .ok (.aload_n 0, 1) := by decide +kernel
theorem dX0_pointsOfAll_18 : decode cX0_pointsOfAll 18 = .ok (.invokevirtual 54, 3) := by decide +kernel
theorem dX0_pointsOfAll_21 : decode cX0_pointsOfAll 21 = .ok (.if_icmp .ne 9, 3) := by decide +kernel
theorem dX0_pointsOfAll_24 : decode cX0_pointsOfAll 24 = .ok (.iload_n 1, 1) := by decide +kernel
theorem dX0_pointsOfAll_25 : decode cX0_pointsOfAll 25 = .ok (.iconst 1, 1) := by decide +kernel
theorem dX0_pointsOfAll_26 : decode cX0_pointsOfAll 26 = .ok (.iload_n 2, 1) := by decide +kernel
theorem dX0_pointsOfAll_27 : decode cX0_pointsOfAll 27 = .ok (.ishl, 1) := by decide +kernel
theorem dX0_pointsOfAll_28 : decode cX0_pointsOfAll 28 = .ok (.ior, 1) := by decide +kernel
theorem dX0_pointsOfAll_29 : decode cX0_pointsOfAll 29 = .ok (.istore_n 1, 1) := by decide +kernel
theorem dX0_pointsOfAll_30 : decode cX0_pointsOfAll 30 = .ok (.iinc 2 1, 3) := by decide +kernel
theorem dX0_pointsOfAll_33 : decode cX0_pointsOfAll 33 = .ok (.goto (-29), 3) := by decide +kernel
theorem dX0_pointsOfAll_36 : decode cX0_pointsOfAll 36 = .ok (.iload_n 1, 1) := by decide +kernel
theorem dX0_pointsOfAll_37 : decode cX0_pointsOfAll 37 = .ok (.ireturn, 1) := by decide +kernel
theorem dX0_become_0 : decode cX0_become 0 = .ok (.aload_n 0, 1) := by decide +kernel
theorem dX0_become_1 : decode cX0_become 1 = .ok (.aload_n 1, 1) := by decide +kernel
theorem dX0_become_2 : decode cX0_become 2 = .ok (.getfield 9, 3) := by decide +kernel
theorem dX0_become_5 : decode cX0_become 5 = .ok (.putfield 9, 3) := by decide +kernel
theorem dX0_become_8 : decode cX0_become 8 = .ok (.aload_n 0, 1) := by decide +kernel
theorem dX0_become_9 : decode cX0_become 9 = .ok (.aload_n 1, 1) := by decide +kernel
theorem dX0_become_10 : decode cX0_become 10 = .ok (.getfield 15, 3) := by decide +kernel
theorem dX0_become_13 : decode cX0_become 13 = .ok (.putfield 15, 3) := by decide +kernel
theorem dX0_become_16 : decode cX0_become 16 = .ok (.aload_n 0, 1) := by decide +kernel
theorem dX0_become_17 : decode cX0_become 17 = .ok (.aload_n 1, 1) := by decide +kernel
theorem dX0_become_18 : decode cX0_become 18 = .ok (.getfield 19, 3) := by decide +kernel
theorem dX0_become_21 : decode cX0_become 21 = .ok (.putfield 19, 3) := by decide +kernel
theorem dX0_become_24 : decode cX0_become 24 = .ok (.return_, 1) := by decide +kernel
theorem dX0_clear_0 : decode cX0_clear 0 = .ok (.aload_n 0, 1) := by decide +kernel
theorem dX0_clear_1 : decode cX0_clear 1 = .ok (.iload_n 1, 1) := by decide +kernel
theorem dX0_clear_2 : decode cX0_clear 2 = .ok (.putfield 9, 3) := by decide +kernel
theorem dX0_clear_5 : decode cX0_clear 5 = .ok (.aload_n 0, 1) := by decide +kernel
theorem dX0_clear_6 : decode cX0_clear 6 = .ok (.lconst 0, 1) := by decide +kernel
theorem dX0_clear_7 : decode cX0_clear 7 = .ok (.putfield 15, 3) := by decide +kernel
theorem dX0_clear_10 : decode cX0_clear 10 = .ok (.aload_n 0, 1) := by decide +kernel
theorem dX0_clear_11 : decode cX0_clear 11 = .ok (.lconst 0, 1) := by decide +kernel
theorem dX0_clear_12 : decode cX0_clear 12 = .ok (.putfield 19, 3) := by decide +kernel
theorem dX0_clear_15 : decode cX0_clear 15 = .ok (.return_, 1) := by decide +kernel
theorem dX0_fill_0 : decode cX0_fill 0 = .ok (.aload_n 0, 1) := by decide +kernel
theorem dX0_fill_1 : decode cX0_fill 1 = .ok (.iload_n 1, 1) := by decide +kernel
theorem dX0_fill_2 : decode cX0_fill 2 = .ok (.putfield 9, 3) := by decide +kernel
theorem dX0_fill_5 : decode cX0_fill 5 = .ok (.aload_n 0, 1) := by decide +kernel
theorem dX0_fill_6 : decode cX0_fill 6 = .ok (.iload_n 1, 1) := by decide +kernel
theorem dX0_fill_7 : decode cX0_fill 7 = .ok (.bipush 6, 2) := by decide +kernel
theorem dX0_fill_9 : decode cX0_fill 9 = .ok (.if_icmp .ge 13, 3) := by decide +kernel
theorem dX0_fill_12 : decode cX0_fill 12 = .ok (.lconst 1, 1) := by decide +kernel
theorem dX0_fill_13 : decode cX0_fill 13 = .ok (.iconst 1, 1) := by decide +kernel
theorem dX0_fill_14 : decode cX0_fill 14 = .ok (.iload_n 1, 1) := by decide +kernel
theorem dX0_fill_15 : decode cX0_fill 15 = .ok (.ishl, 1) := by decide +kernel
theorem dX0_fill_16 : decode cX0_fill 16 = .ok (.lshl, 1) := by decide +kernel
theorem dX0_fill_17 : decode cX0_fill 17 = .ok (.lconst 1, 1) := by decide +kernel
theorem dX0_fill_18 : decode cX0_fill 18 = .ok (.lsub, 1) := by decide +kernel
theorem dX0_fill_19 : decode cX0_fill 19 = .ok (.goto 6, 3) := by decide +kernel
theorem dX0_fill_22 : decode cX0_fill 22 = .ok (.ldc2_w 57, 3) := by decide +kernel
theorem dX0_fill_25 : decode cX0_fill 25 = .ok (.putfield 15, 3) := by decide +kernel
theorem dX0_fill_28 : decode cX0_fill 28 = .ok (.aload_n 0, 1) := by decide +kernel
theorem dX0_fill_29 : decode cX0_fill 29 = .ok (.iload_n 1, 1) := by decide +kernel
theorem dX0_fill_30 : decode cX0_fill 30 = .ok (.bipush 6, 2) := by decide +kernel
theorem dX0_fill_32 : decode cX0_fill 32 = .ok (.if_icmp .le 9, 3) := by decide +kernel
theorem dX0_fill_35 : decode cX0_fill 35 = .ok (.ldc2_w 57, 3) := by decide +kernel
theorem dX0_fill_38 : decode cX0_fill 38 = .ok (.goto 4, 3) := by decide +kernel
theorem dX0_fill_41 : decode cX0_fill 41 = .ok (.lconst 0, 1) := by decide +kernel
theorem dX0_fill_42 : decode cX0_fill 42 = .ok (.putfield 19, 3) := by decide +kernel
theorem dX0_fill_45 : decode cX0_fill 45 = .ok (.return_, 1) := by decide +kernel
theorem dX0_put_0 : decode cX0_put 0 = .ok (.iload_n 1, 1) := by decide +kernel
theorem dX0_put_1 : decode cX0_put 1 = .ok (.ifCond .lt 24, 3) := by decide +kernel
theorem dX0_put_4 : decode cX0_put 4 = .ok (.iload_n 1, 1) := by decide +kernel
theorem dX0_put_5 : decode cX0_put 5 = .ok (.bipush 64, 2) := by decide +kernel
theorem dX0_put_7 : decode cX0_put 7 = .ok (.if_icmp .ge 18, 3) := by decide +kernel
theorem dX0_put_10 : decode cX0_put 10 = .ok (.aload_n 0, 1) := by decide +kernel
theorem dX0_put_11 : decode cX0_put 11 = .ok (.dup, 1) := by decide +kernel
theorem dX0_put_12 : decode cX0_put 12 = .ok (.getfield 15, 3) := by decide +kernel
theorem dX0_put_15 : decode cX0_put 15 = .ok (.lconst 1, 1) := by decide +kernel
theorem dX0_put_16 : decode cX0_put 16 = .ok (.iload_n 1, 1) := by decide +kernel
theorem dX0_put_17 : decode cX0_put 17 = .ok (.lshl, 1) := by decide +kernel
theorem dX0_put_18 : decode cX0_put 18 = .ok (.lor, 1) := by decide +kernel
theorem dX0_put_19 : decode cX0_put 19 = .ok (.putfield 15, 3) := by decide +kernel
theorem dX0_put_22 : decode cX0_put 22 = .ok (.goto 31, 3) := by decide +kernel
theorem dX0_put_25 : decode cX0_put 25 = .ok (.iload_n 1, 1) := by decide +kernel
theorem dX0_put_26 : decode cX0_put 26 = .ok (.bipush 64, 2) := by decide +kernel
theorem dX0_put_28 : decode cX0_put 28 = .ok (.if_icmp .lt 25, 3) := by decide +kernel
theorem dX0_put_31 : decode cX0_put 31 = .ok (.iload_n 1, 1) := by decide +kernel
theorem dX0_put_32 : decode cX0_put 32 = .ok (.sipush 128, 3) := by decide +kernel
theorem dX0_put_35 : decode cX0_put 35 = .ok (.if_icmp .ge 18, 3) := by decide +kernel
theorem dX0_put_38 : decode cX0_put 38 = .ok (.aload_n 0, 1) := by decide +kernel
theorem dX0_put_39 : decode cX0_put 39 = .ok (.dup, 1) := by decide +kernel
theorem dX0_put_40 : decode cX0_put 40 = .ok (.getfield 19, 3) := by decide +kernel
theorem dX0_put_43 : decode cX0_put 43 = .ok (.lconst 1, 1) := by decide +kernel
theorem dX0_put_44 : decode cX0_put 44 = .ok (.iload_n 1, 1) := by decide +kernel
theorem dX0_put_45 : decode cX0_put 45 = .ok (.bipush 64, 2) := by decide +kernel
theorem dX0_put_47 : decode cX0_put 47 = .ok (.isub, 1) := by decide +kernel
theorem dX0_put_48 : decode cX0_put 48 = .ok (.lshl, 1) := by decide +kernel
theorem dX0_put_49 : decode cX0_put 49 = .ok (.lor, 1) := by decide +kernel
theorem dX0_put_50 : decode cX0_put 50 = .ok (.putfield 19, 3) := by decide +kernel
theorem dX0_put_53 : decode cX0_put 53 = .ok (.return_, 1) := by decide +kernel
theorem dX0_remove_0 : decode cX0_remove 0 = .ok (.iload_n 1, 1) := by decide +kernel
theorem dX0_remove_1 : decode cX0_remove 1 = .ok (.ifCond .lt 28, 3) := by decide +kernel
theorem dX0_remove_4 : decode cX0_remove 4 = .ok (.iload_n 1, 1) := by decide +kernel
theorem dX0_remove_5 : decode cX0_remove 5 = .ok (.bipush 64, 2) := by decide +kernel
theorem dX0_remove_7 : decode cX0_remove 7 = .ok (.if_icmp .ge 22, 3) := by decide +kernel
theorem dX0_remove_10 : decode cX0_remove 10 = .ok (.aload_n 0, 1) := by decide +kernel
theorem dX0_remove_11 : decode cX0_remove 11 = .ok (.dup, 1) := by decide +kernel
theorem dX0_remove_12 : decode cX0_remove 12 = .ok (.getfield 15, 3) := by decide +kernel
theorem dX0_remove_15 : decode cX0_remove 15 = .ok (.lconst 1, 1) := by decide +kernel
theorem dX0_remove_16 : decode cX0_remove 16 = .ok (.iload_n 1, 1) := by decide +kernel
theorem dX0_remove_17 : decode cX0_remove 17 = .ok (.lshl, 1) := by decide +kernel
theorem dX0_remove_18 : decode cX0_remove 18 = .ok (.ldc2_w 57, 3) := by decide +kernel
theorem dX0_remove_21 : decode cX0_remove 21 = .ok (.lxor, 1) := by decide +kernel
theorem dX0_remove_22 : decode cX0_remove 22 = .ok (.land, 1) := by decide +kernel
theorem dX0_remove_23 : decode cX0_remove 23 = .ok (.putfield 15, 3) := by decide +kernel
theorem dX0_remove_26 : decode cX0_remove 26 = .ok (.goto 35, 3) := by decide +kernel
theorem dX0_remove_29 : decode cX0_remove 29 = .ok (.iload_n 1, 1) := by decide +kernel
theorem dX0_remove_30 : decode cX0_remove 30 = .ok (.bipush 64, 2) := by decide +kernel
theorem dX0_remove_32 : decode cX0_remove 32 = .ok (.if_icmp .lt 29, 3) := by decide +kernel
theorem dX0_remove_35 : decode cX0_remove 35 = .ok (.iload_n 1, 1) := by decide +kernel
theorem dX0_remove_36 : decode cX0_remove 36 = .ok (.sipush 128, 3) := by decide +kernel
theorem dX0_remove_39 : decode cX0_remove 39 = .ok (.if_icmp .ge 22, 3) := by decide +kernel
theorem dX0_remove_42 : decode cX0_remove 42 = .ok (.aload_n 0, 1) := by decide +kernel
theorem dX0_remove_43 : decode cX0_remove 43 = .ok (.dup, 1) := by decide +kernel
theorem dX0_remove_44 : decode cX0_remove 44 = .ok (.getfield 19, 3) := by decide +kernel
theorem dX0_remove_47 : decode cX0_remove 47 = .ok (.lconst 1, 1) := by decide +kernel
theorem dX0_remove_48 : decode cX0_remove 48 = .ok (.iload_n 1, 1) := by decide +kernel
theorem dX0_remove_49 : decode cX0_remove 49 = .ok (.bipush 64, 2) := by decide +kernel
theorem dX0_remove_51 : decode cX0_remove 51 = .ok (.isub, 1) := by decide +kernel
theorem dX0_remove_52 : decode cX0_remove 52 = .ok (.lshl, 1) := by decide +kernel
theorem dX0_remove_53 : decode cX0_remove 53 = .ok (.ldc2_w 57, 3) := by decide +kernel
theorem dX0_remove_56 : decode cX0_remove 56 = .ok (.lxor, 1) := by decide +kernel
theorem dX0_remove_57 : decode cX0_remove 57 = .ok (.land, 1) := by decide +kernel
theorem dX0_remove_58 : decode cX0_remove 58 = .ok (.putfield 19, 3) := by decide +kernel
theorem dX0_remove_61 : decode cX0_remove 61 = .ok (.return_, 1) := by decide +kernel
theorem dX0_join_0 : decode cX0_join 0 = .ok (.aload_n 0, 1) := by decide +kernel
theorem dX0_join_1 : decode cX0_join 1 = .ok (.dup, 1) := by decide +kernel
theorem dX0_join_2 : decode cX0_join 2 = .ok (.getfield 15, 3) := by decide +kernel
theorem dX0_join_5 : decode cX0_join 5 = .ok (.aload_n 1, 1) := by decide +kernel
theorem dX0_join_6 : decode cX0_join 6 = .ok (.getfield 15, 3) := by decide +kernel
theorem dX0_join_9 : decode cX0_join 9 = .ok (.lor, 1) := by decide +kernel
theorem dX0_join_10 : decode cX0_join 10 = .ok (.putfield 15, 3) := by decide +kernel
theorem dX0_join_13 : decode cX0_join 13 = .ok (.aload_n 0, 1) := by decide +kernel
theorem dX0_join_14 : decode cX0_join 14 = .ok (.dup, 1) := by decide +kernel
theorem dX0_join_15 : decode cX0_join 15 = .ok (.getfield 19, 3) := by decide +kernel
theorem dX0_join_18 : decode cX0_join 18 = .ok (.aload_n 1, 1) := by decide +kernel
theorem dX0_join_19 : decode cX0_join 19 = .ok (.getfield 19, 3) := by decide +kernel
theorem dX0_join_22 : decode cX0_join 22 = .ok (.lor, 1) := by decide +kernel
theorem dX0_join_23 : decode cX0_join 23 = .ok (.putfield 19, 3) := by decide +kernel
theorem dX0_join_26 : decode cX0_join 26 = .ok (.return_, 1) := by decide +kernel
theorem dX0_keep_0 : decode cX0_keep 0 = .ok (.aload_n 0, 1) := by decide +kernel
theorem dX0_keep_1 : decode cX0_keep 1 = .ok (.dup, 1) := by decide +kernel
theorem dX0_keep_2 : decode cX0_keep 2 = .ok (.getfield 15, 3) := by decide +kernel
theorem dX0_keep_5 : decode cX0_keep 5 = .ok (.aload_n 1, 1) := by decide +kernel
theorem dX0_keep_6 : decode cX0_keep 6 = .ok (.getfield 15, 3) := by decide +kernel
theorem dX0_keep_9 : decode cX0_keep 9 = .ok (.land, 1) := by decide +kernel
theorem dX0_keep_10 : decode cX0_keep 10 = .ok (.putfield 15, 3) := by decide +kernel
theorem dX0_keep_13 : decode cX0_keep 13 = .ok (.aload_n 0, 1) := by decide +kernel
theorem dX0_keep_14 : decode cX0_keep 14 = .ok (.dup, 1) := by decide +kernel
theorem dX0_keep_15 : decode cX0_keep 15 = .ok (.getfield 19, 3) := by decide +kernel
theorem dX0_keep_18 : decode cX0_keep 18 = .ok (.aload_n 1, 1) := by decide +kernel
theorem dX0_keep_19 : decode cX0_keep 19 = .ok (.getfield 19, 3) := by decide +kernel
theorem dX0_keep_22 : decode cX0_keep 22 = .ok (.land, 1) := by decide +kernel
theorem dX0_keep_23 : decode cX0_keep 23 = .ok (.putfield 19, 3) := by decide +kernel
theorem dX0_keep_26 : decode cX0_keep 26 = .ok (.return_, 1) := by decide +kernel
theorem dX0_lose_0 : decode cX0_lose 0 = .ok (.aload_n 0, 1) := by decide +kernel
theorem dX0_lose_1 : decode cX0_lose 1 = .ok (.aload_n 0, 1) := by decide +kernel
theorem dX0_lose_2 : decode cX0_lose 2 = .ok (.getfield 15, 3) := by decide +kernel
theorem dX0_lose_5 : decode cX0_lose 5 = .ok (.aload_n 1, 1) := by decide +kernel
theorem dX0_lose_6 : decode cX0_lose 6 = .ok (.getfield 15, 3) := by decide +kernel
theorem dX0_lose_9 : decode cX0_lose 9 = .ok (.ldc2_w 57, 3) := by decide +kernel
theorem dX0_lose_12 : decode cX0_lose 12 = .ok (.lxor, 1) := by decide +kernel
theorem dX0_lose_13 : decode cX0_lose 13 = .ok (.land, 1) := by decide +kernel
theorem dX0_lose_14 : decode cX0_lose 14 = .ok (.putfield 15, 3) := by decide +kernel
theorem dX0_lose_17 : decode cX0_lose 17 = .ok (.aload_n 0, 1) := by decide +kernel
theorem dX0_lose_18 : decode cX0_lose 18 = .ok (.aload_n 0, 1) := by decide +kernel
theorem dX0_lose_19 : decode cX0_lose 19 = .ok (.getfield 19, 3) := by decide +kernel
theorem dX0_lose_22 : decode cX0_lose 22 = .ok (.aload_n 1, 1) := by decide +kernel
theorem dX0_lose_23 : decode cX0_lose 23 = .ok (.getfield 19, 3) := by decide +kernel
theorem dX0_lose_26 : decode cX0_lose 26 = .ok (.ldc2_w 57, 3) := by decide +kernel
theorem dX0_lose_29 : decode cX0_lose 29 = .ok (.lxor, 1) := by decide +kernel
theorem dX0_lose_30 : decode cX0_lose 30 = .ok (.land, 1) := by decide +kernel
theorem dX0_lose_31 : decode cX0_lose 31 = .ok (.putfield 19, 3) := by decide +kernel
theorem dX0_lose_34 : decode cX0_lose 34 = .ok (.return_, 1) := by decide +kernel
theorem dX0_keepSharing_0 : decode cX0_keepSharing 0 = .ok (.iconst 0, 1) := by decide +kernel
theorem dX0_keepSharing_1 : decode cX0_keepSharing 1 = .ok (.istore_n 3, 1) := by decide +kernel
theorem dX0_keepSharing_2 : decode cX0_keepSharing 2 = .ok (.iload_n 3, 1) := by decide +kernel
theorem dX0_keepSharing_3 : decode cX0_keepSharing 3 = .ok (.bipush 6, 2) := by decide +kernel
theorem dX0_keepSharing_5 : decode cX0_keepSharing 5 = .ok (.if_icmp .gt 42, 3) := by decide +kernel
theorem dX0_keepSharing_8 : decode cX0_keepSharing 8 = .ok (.iload_n 1, 1) := by decide +kernel
theorem dX0_keepSharing_9 : decode cX0_keepSharing 9 = .ok (.iload_n 3, 1) := by decide +kernel
theorem dX0_keepSharing_10 : decode cX0_keepSharing 10 = .ok (.ishr, 1) := by decide +kernel
theorem dX0_keepSharing_11 : decode cX0_keepSharing 11 = .ok (.iconst 1, 1) := by decide +kernel
theorem dX0_keepSharing_12 : decode cX0_keepSharing 12 = .ok (.iand, 1) := by decide +kernel
theorem dX0_keepSharing_13 : decode cX0_keepSharing 13 = .ok (.ifCond .ne 6, 3) := by decide +kernel
theorem dX0_keepSharing_16 : decode cX0_keepSharing 16 = .ok (.goto 25, 3) := by decide +kernel
theorem dX0_keepSharing_19 : decode cX0_keepSharing 19 = .ok (.iload_n 2, 1) := by decide +kernel
theorem dX0_keepSharing_20 : decode cX0_keepSharing 20 = .ok (.iload_n 3, 1) := by decide +kernel
theorem dX0_keepSharing_21 : decode cX0_keepSharing 21 = .ok (.ishr, 1) := by decide +kernel
theorem dX0_keepSharing_22 : decode cX0_keepSharing 22 = .ok (.iconst 1, 1) := by decide +kernel
theorem dX0_keepSharing_23 : decode cX0_keepSharing 23 = .ok (.iand, 1) := by decide +kernel
theorem dX0_keepSharing_24 : decode cX0_keepSharing 24 = .ok (.iconst 1, 1) := by decide +kernel
theorem dX0_keepSharing_25 : decode cX0_keepSharing 25 = .ok (.if_icmp .ne 11, 3) := by decide +kernel
theorem dX0_keepSharing_28 : decode cX0_keepSharing 28 = .ok (.aload_n 0, 1) := by decide +kernel
theorem dX0_keepSharing_29 : decode cX0_keepSharing 29 = .ok (.iload_n 3, 1) := by decide +kernel
theorem dX0_keepSharing_30 : decode cX0_keepSharing 30 = .ok (.invokevirtual 59, 3) := by decide +kernel
theorem dX0_keepSharing_33 : decode cX0_keepSharing 33 = .ok (.goto 8, 3) := by decide +kernel
theorem dX0_keepSharing_36 : decode cX0_keepSharing 36 = .ok (.aload_n 0, 1) := by decide +kernel
theorem dX0_keepSharing_37 : decode cX0_keepSharing 37 = .ok (.iload_n 3, 1) := by decide +kernel
theorem dX0_keepSharing_38 : decode cX0_keepSharing 38 = .ok (.invokevirtual 63, 3) := by decide +kernel
theorem dX0_keepSharing_41 : decode cX0_keepSharing 41 = .ok (.iinc 3 1, 3) := by decide +kernel
theorem dX0_keepSharing_44 : decode cX0_keepSharing 44 = .ok (.goto (-42), 3) := by decide +kernel
theorem dX0_keepSharing_47 : decode cX0_keepSharing 47 = .ok (.return_, 1) := by decide +kernel
theorem dX0_keepWith_0 : decode cX0_keepWith 0 = .ok (.aload_n 0, 1) := by decide +kernel
theorem dX0_keepWith_1 : decode cX0_keepWith 1 = .ok (.dup, 1) := by decide +kernel
theorem dX0_keepWith_2 : decode cX0_keepWith 2 = .ok (.getfield 15, 3) := by decide +kernel
theorem dX0_keepWith_5 : decode cX0_keepWith 5 = .ok (.getstatic 41, 3) := by decide +kernel
theorem dX0_keepWith_8 : decode cX0_keepWith 8 = .ok (.iload_n 1, 1) := by decide +kernel
theorem dX0_keepWith_9 : decode cX0_keepWith 9 = .ok (.laload, 1) := by decide +kernel
theorem dX0_keepWith_10 : decode cX0_keepWith 10 = .ok (.land, 1) := by decide +kernel
theorem dX0_keepWith_11 : decode cX0_keepWith 11 = .ok (.putfield 15, 3) := by decide +kernel
theorem dX0_keepWith_14 : decode cX0_keepWith 14 = .ok (.aload_n 0, 1) := by decide +kernel
theorem dX0_keepWith_15 : decode cX0_keepWith 15 = .ok (.dup, 1) := by decide +kernel
theorem dX0_keepWith_16 : decode cX0_keepWith 16 = .ok (.getfield 19, 3) := by decide +kernel
theorem dX0_keepWith_19 : decode cX0_keepWith 19 = .ok (.getstatic 45, 3) := by decide +kernel
theorem dX0_keepWith_22 : decode cX0_keepWith 22 = .ok (.iload_n 1, 1) := by decide +kernel
theorem dX0_keepWith_23 : decode cX0_keepWith 23 = .ok (.laload, 1) := by decide +kernel
theorem dX0_keepWith_24 : decode cX0_keepWith 24 = .ok (.land, 1) := by decide +kernel
theorem dX0_keepWith_25 : decode cX0_keepWith 25 = .ok (.putfield 19, 3) := by decide +kernel
theorem dX0_keepWith_28 : decode cX0_keepWith 28 = .ok (.return_, 1) := by decide +kernel
theorem dX0_keepLacking_0 : decode cX0_keepLacking 0 = .ok (.aload_n 0, 1) := by decide +kernel
theorem dX0_keepLacking_1 : decode cX0_keepLacking 1 = .ok (.dup, 1) := by decide +kernel
theorem dX0_keepLacking_2 : decode cX0_keepLacking 2 = .ok (.getfield 15, 3) := by decide +kernel
theorem dX0_keepLacking_5 : decode cX0_keepLacking 5 = .ok (.getstatic 41, 3) := by decide +kernel
theorem dX0_keepLacking_8 : decode cX0_keepLacking 8 = .ok (.iload_n 1, 1) := by decide +kernel
theorem dX0_keepLacking_9 : decode cX0_keepLacking 9 = .ok (.laload, 1) := by decide +kernel
theorem dX0_keepLacking_10 : decode cX0_keepLacking 10 = .ok (.ldc2_w 57, 3) := by decide +kernel
theorem dX0_keepLacking_13 : decode cX0_keepLacking 13 = .ok (.lxor, 1) := by decide +kernel
theorem dX0_keepLacking_14 : decode cX0_keepLacking 14 = .ok (.land, 1) := by decide +kernel
theorem dX0_keepLacking_15 : decode cX0_keepLacking 15 = .ok (.putfield 15, 3) := by decide +kernel
theorem dX0_keepLacking_18 : decode cX0_keepLacking 18 = .ok (.aload_n 0, 1) := by decide +kernel
theorem dX0_keepLacking_19 : decode cX0_keepLacking 19 = .ok (.dup, 1) := by decide +kernel
theorem dX0_keepLacking_20 : decode cX0_keepLacking 20 = .ok (.getfield 19, 3) := by decide +kernel
theorem dX0_keepLacking_23 : decode cX0_keepLacking 23 = .ok (.getstatic 45, 3) := by decide +kernel
theorem dX0_keepLacking_26 : decode cX0_keepLacking 26 = .ok (.iload_n 1, 1) := by decide +kernel
theorem dX0_keepLacking_27 : decode cX0_keepLacking 27 = .ok (.laload, 1) := by decide +kernel
theorem dX0_keepLacking_28 : decode cX0_keepLacking 28 = .ok (.ldc2_w 57, 3) := by decide +kernel
theorem dX0_keepLacking_31 : decode cX0_keepLacking 31 = .ok (.lxor, 1) := by decide +kernel
theorem dX0_keepLacking_32 : decode cX0_keepLacking 32 = .ok (.land, 1) := by decide +kernel
theorem dX0_keepLacking_33 : decode cX0_keepLacking 33 = .ok (.putfield 19, 3) := by decide +kernel
theorem dX0_keepLacking_36 : decode cX0_keepLacking 36 = .ok (.return_, 1) := by decide +kernel
theorem dX0_keepBehind_0 : decode cX0_keepBehind 0 = .ok (.iload_n 1, 1) := by decide +kernel
theorem dX0_keepBehind_1 : decode cX0_keepBehind 1 = .ok (.bipush 63, 2) := by decide +kernel
theorem dX0_keepBehind_3 : decode cX0_keepBehind 3 = .ok (.if_icmp .ge 20, 3) := by decide +kernel
theorem dX0_keepBehind_6 : decode cX0_keepBehind 6 = .ok (.aload_n 0, 1) := by decide +kernel
theorem dX0_keepBehind_7 : decode cX0_keepBehind 7 = .ok (.dup, 1) := by decide +kernel
theorem dX0_keepBehind_8 : decode cX0_keepBehind 8 = .ok (.getfield 15, 3) := by decide +kernel
theorem dX0_keepBehind_11 : decode cX0_keepBehind 11 = .ok (.ldc2_w 57, 3) := by decide +kernel
theorem dX0_keepBehind_14 : decode cX0_keepBehind 14 = .ok (.iload_n 1, 1) := by decide +kernel
theorem dX0_keepBehind_15 : decode cX0_keepBehind 15 = .ok (.iconst 1, 1) := by decide +kernel
theorem dX0_keepBehind_16 : decode cX0_keepBehind 16 = .ok (.iadd, 1) := by decide +kernel
theorem dX0_keepBehind_17 : decode cX0_keepBehind 17 = .ok (.lshl, 1) := by decide +kernel
theorem dX0_keepBehind_18 : decode cX0_keepBehind 18 = .ok (.land, 1) := by decide +kernel
theorem dX0_keepBehind_19 : decode cX0_keepBehind 19 = .ok (.putfield 15, 3) := by decide +kernel
theorem dX0_keepBehind_22 : decode cX0_keepBehind 22 = .ok (.return_, 1) := by decide +kernel
theorem dX0_keepBehind_23 : decode cX0_keepBehind 23 = .ok (.aload_n 0, 1) := by decide +kernel
theorem dX0_keepBehind_24 : decode cX0_keepBehind 24 = .ok (.lconst 0, 1) := by decide +kernel
theorem dX0_keepBehind_25 : decode cX0_keepBehind 25 = .ok (.putfield 15, 3) := by decide +kernel
theorem dX0_keepBehind_28 : decode cX0_keepBehind 28 = .ok (.iload_n 1, 1) := by decide +kernel
theorem dX0_keepBehind_29 : decode cX0_keepBehind 29 = .ok (.bipush 63, 2) := by decide +kernel
theorem dX0_keepBehind_31 : decode cX0_keepBehind 31 = .ok (.if_icmp .le 30, 3) := by decide +kernel
theorem dX0_keepBehind_34 : decode cX0_keepBehind 34 = .ok (.aload_n 0, 1) := by decide +kernel
theorem dX0_keepBehind_35 : decode cX0_keepBehind 35 = .ok (.iload_n 1, 1) := by decide +kernel
theorem dX0_keepBehind_36 : decode cX0_keepBehind 36 = .ok (.bipush 127, 2) := by decide +kernel
theorem dX0_keepBehind_38 : decode cX0_keepBehind 38 = .ok (.if_icmp .ge 19, 3) := by decide +kernel
theorem dX0_keepBehind_41 : decode cX0_keepBehind 41 = .ok (.aload_n 0, 1) := by decide +kernel
theorem dX0_keepBehind_42 : decode cX0_keepBehind 42 = .ok (.getfield 19, 3) := by decide +kernel
theorem dX0_keepBehind_45 : decode cX0_keepBehind 45 = .ok (.ldc2_w 57, 3) := by decide +kernel
theorem dX0_keepBehind_48 : decode cX0_keepBehind 48 = .ok (.iload_n 1, 1) := by decide +kernel
theorem dX0_keepBehind_49 : decode cX0_keepBehind 49 = .ok (.bipush 63, 2) := by decide +kernel
theorem dX0_keepBehind_51 : decode cX0_keepBehind 51 = .ok (.isub, 1) := by decide +kernel
theorem dX0_keepBehind_52 : decode cX0_keepBehind 52 = .ok (.lshl, 1) := by decide +kernel
theorem dX0_keepBehind_53 : decode cX0_keepBehind 53 = .ok (.land, 1) := by decide +kernel
theorem dX0_keepBehind_54 : decode cX0_keepBehind 54 = .ok (.goto 4, 3) := by decide +kernel
theorem dX0_keepBehind_57 : decode cX0_keepBehind 57 = .ok (.lconst 0, 1) := by decide +kernel
theorem dX0_keepBehind_58 : decode cX0_keepBehind 58 = .ok (.putfield 19, 3) := by decide +kernel
theorem dX0_keepBehind_61 : decode cX0_keepBehind 61 = .ok (.return_, 1) := by decide +kernel
theorem dX0_joinLink_0 : decode cX0_joinLink 0 = .ok (.iload_n 2, 1) := by decide +kernel
theorem dX0_joinLink_1 : decode cX0_joinLink 1 = .ok (.bipush 6, 2) := by decide +kernel
theorem dX0_joinLink_3 : decode cX0_joinLink 3 = .ok (.if_icmp .ne 17, 3) := by decide +kernel
theorem dX0_joinLink_6 : decode cX0_joinLink 6 = .ok (.aload_n 0, 1) := by decide +kernel
theorem dX0_joinLink_7 : decode cX0_joinLink 7 = .ok (.dup, 1) := by decide +kernel
theorem dX0_joinLink_8 : decode cX0_joinLink 8 = .ok (.getfield 15, 3) := by decide +kernel
theorem dX0_joinLink_11 : decode cX0_joinLink 11 = .ok (.aload_n 1, 1) := by decide +kernel
theorem dX0_joinLink_12 : decode cX0_joinLink 12 = .ok (.getfield 19, 3) := by decide +kernel
theorem dX0_joinLink_15 : decode cX0_joinLink 15 = .ok (.lor, 1) := by decide +kernel
theorem dX0_joinLink_16 : decode cX0_joinLink 16 = .ok (.putfield 15, 3) := by decide +kernel
theorem dX0_joinLink_19 : decode cX0_joinLink 19 = .ok (.return_, 1) := by decide +kernel
theorem dX0_joinLink_20 : decode cX0_joinLink 20 = .ok (.aload_n 0, 1) := by decide +kernel
theorem dX0_joinLink_21 : decode cX0_joinLink 21 = .ok (.dup, 1) := by decide +kernel
theorem dX0_joinLink_22 : decode cX0_joinLink 22 = .ok (.getfield 15, 3) := by decide +kernel
theorem dX0_joinLink_25 : decode cX0_joinLink 25 = .ok (.aload_n 1, 1) := by decide +kernel
theorem dX0_joinLink_26 : decode cX0_joinLink 26 = .ok (.getfield 15, 3) := by decide +kernel
theorem dX0_joinLink_29 : decode cX0_joinLink 29 = .ok (.getstatic 41, 3) := by decide +kernel
theorem dX0_joinLink_32 : decode cX0_joinLink 32 = .ok (.iload_n 2, 1) := by decide +kernel
theorem dX0_joinLink_33 : decode cX0_joinLink 33 = .ok (.laload, 1) := by decide +kernel
theorem dX0_joinLink_34 : decode cX0_joinLink 34 = .ok (.land, 1) := by decide +kernel
theorem dX0_joinLink_35 : decode cX0_joinLink 35 = .ok (.iconst 1, 1) := by decide +kernel
theorem dX0_joinLink_36 : decode cX0_joinLink 36 = .ok (.iload_n 2, 1) := by decide +kernel
theorem dX0_joinLink_37 : decode cX0_joinLink 37 = .ok (.ishl, 1) := by decide +kernel
theorem dX0_joinLink_38 : decode cX0_joinLink 38 = .ok (.lushr, 1) := by decide +kernel
theorem dX0_joinLink_39 : decode cX0_joinLink 39 = .ok (.lor, 1) := by decide +kernel
theorem dX0_joinLink_40 : decode cX0_joinLink 40 = .ok (.putfield 15, 3) := by decide +kernel
theorem dX0_joinLink_43 : decode cX0_joinLink 43 = .ok (.aload_n 0, 1) := by decide +kernel
theorem dX0_joinLink_44 : decode cX0_joinLink 44 = .ok (.dup, 1) := by decide +kernel
theorem dX0_joinLink_45 : decode cX0_joinLink 45 = .ok (.getfield 19, 3) := by decide +kernel
theorem dX0_joinLink_48 : decode cX0_joinLink 48 = .ok (.aload_n 1, 1) := by decide +kernel
theorem dX0_joinLink_49 : decode cX0_joinLink 49 = .ok (.getfield 19, 3) := by decide +kernel
theorem dX0_joinLink_52 : decode cX0_joinLink 52 = .ok (.getstatic 45, 3) := by decide +kernel
theorem dX0_joinLink_55 : decode cX0_joinLink 55 = .ok (.iload_n 2, 1) := by decide +kernel
theorem dX0_joinLink_56 : decode cX0_joinLink 56 = .ok (.laload, 1) := by decide +kernel
theorem dX0_joinLink_57 : decode cX0_joinLink 57 = .ok (.land, 1) := by decide +kernel
theorem dX0_joinLink_58 : decode cX0_joinLink 58 = .ok (.iconst 1, 1) := by decide +kernel
theorem dX0_joinLink_59 : decode cX0_joinLink 59 = .ok (.iload_n 2, 1) := by decide +kernel
theorem dX0_joinLink_60 : decode cX0_joinLink 60 = .ok (.ishl, 1) := by decide +kernel
theorem dX0_joinLink_61 : decode cX0_joinLink 61 = .ok (.lushr, 1) := by decide +kernel
theorem dX0_joinLink_62 : decode cX0_joinLink 62 = .ok (.lor, 1) := by decide +kernel
theorem dX0_joinLink_63 : decode cX0_joinLink 63 = .ok (.putfield 19, 3) := by decide +kernel
theorem dX0_joinLink_66 : decode cX0_joinLink 66 = .ok (.return_, 1) := by decide +kernel
theorem dX0_joinRaised_0 : decode cX0_joinRaised 0 = .ok (.iload_n 2, 1) := by decide +kernel
theorem dX0_joinRaised_1 : decode cX0_joinRaised 1 = .ok (.bipush 6, 2) := by decide +kernel
theorem dX0_joinRaised_3 : decode cX0_joinRaised 3 = .ok (.if_icmp .ne 17, 3) := by decide +kernel
theorem dX0_joinRaised_6 : decode cX0_joinRaised 6 = .ok (.aload_n 0, 1) := by decide +kernel
theorem dX0_joinRaised_7 : decode cX0_joinRaised 7 = .ok (.dup, 1) := by decide +kernel
theorem dX0_joinRaised_8 : decode cX0_joinRaised 8 = .ok (.getfield 19, 3) := by decide +kernel
theorem dX0_joinRaised_11 : decode cX0_joinRaised 11 = .ok (.aload_n 1, 1) := by decide +kernel
theorem dX0_joinRaised_12 : decode cX0_joinRaised 12 = .ok (.getfield 15, 3) := by decide +kernel
theorem dX0_joinRaised_15 : decode cX0_joinRaised 15 = .ok (.lor, 1) := by decide +kernel
theorem dX0_joinRaised_16 : decode cX0_joinRaised 16 = .ok (.putfield 19, 3) := by decide +kernel
theorem dX0_joinRaised_19 : decode cX0_joinRaised 19 = .ok (.return_, 1) := by decide +kernel
theorem dX0_joinRaised_20 : decode cX0_joinRaised 20 = .ok (.aload_n 0, 1) := by decide +kernel
theorem dX0_joinRaised_21 : decode cX0_joinRaised 21 = .ok (.dup, 1) := by decide +kernel
theorem dX0_joinRaised_22 : decode cX0_joinRaised 22 = .ok (.getfield 15, 3) := by decide +kernel
theorem dX0_joinRaised_25 : decode cX0_joinRaised 25 = .ok (.aload_n 1, 1) := by decide +kernel
theorem dX0_joinRaised_26 : decode cX0_joinRaised 26 = .ok (.getfield 15, 3) := by decide +kernel
theorem dX0_joinRaised_29 : decode cX0_joinRaised 29 = .ok (.getstatic 41, 3) := by decide +kernel
theorem dX0_joinRaised_32 : decode cX0_joinRaised 32 = .ok (.iload_n 2, 1) := by decide +kernel
theorem dX0_joinRaised_33 : decode cX0_joinRaised 33 = .ok (.laload, 1) := by decide +kernel
theorem dX0_joinRaised_34 : decode cX0_joinRaised 34 = .ok (.ldc2_w 57, 3) := by decide +kernel
theorem dX0_joinRaised_37 : decode cX0_joinRaised 37 = .ok (.lxor, 1) := by decide +kernel
theorem dX0_joinRaised_38 : decode cX0_joinRaised 38 = .ok (.land, 1) := by decide +kernel
theorem dX0_joinRaised_39 : decode cX0_joinRaised 39 = .ok (.iconst 1, 1) := by decide +kernel
theorem dX0_joinRaised_40 : decode cX0_joinRaised 40 = .ok (.iload_n 2, 1) := by decide +kernel
theorem dX0_joinRaised_41 : decode cX0_joinRaised 41 = .ok (.ishl, 1) := by decide +kernel
theorem dX0_joinRaised_42 : decode cX0_joinRaised 42 = .ok (.lshl, 1) := by decide +kernel
theorem dX0_joinRaised_43 : decode cX0_joinRaised 43 = .ok (.lor, 1) := by decide +kernel
theorem dX0_joinRaised_44 : decode cX0_joinRaised 44 = .ok (.putfield 15, 3) := by decide +kernel
theorem dX0_joinRaised_47 : decode cX0_joinRaised 47 = .ok (.aload_n 0, 1) := by decide +kernel
theorem dX0_joinRaised_48 : decode cX0_joinRaised 48 = .ok (.dup, 1) := by decide +kernel
theorem dX0_joinRaised_49 : decode cX0_joinRaised 49 = .ok (.getfield 19, 3) := by decide +kernel
theorem dX0_joinRaised_52 : decode cX0_joinRaised 52 = .ok (.aload_n 1, 1) := by decide +kernel
theorem dX0_joinRaised_53 : decode cX0_joinRaised 53 = .ok (.getfield 19, 3) := by decide +kernel
theorem dX0_joinRaised_56 : decode cX0_joinRaised 56 = .ok (.getstatic 45, 3) := by decide +kernel
theorem dX0_joinRaised_59 : decode cX0_joinRaised 59 = .ok (.iload_n 2, 1) := by decide +kernel
theorem dX0_joinRaised_60 : decode cX0_joinRaised 60 = .ok (.laload, 1) := by decide +kernel
theorem dX0_joinRaised_61 : decode cX0_joinRaised 61 = .ok (.ldc2_w 57, 3) := by decide +kernel
theorem dX0_joinRaised_64 : decode cX0_joinRaised 64 = .ok (.lxor, 1) := by decide +kernel
theorem dX0_joinRaised_65 : decode cX0_joinRaised 65 = .ok (.land, 1) := by decide +kernel
theorem dX0_joinRaised_66 : decode cX0_joinRaised 66 = .ok (.iconst 1, 1) := by decide +kernel
theorem dX0_joinRaised_67 : decode cX0_joinRaised 67 = .ok (.iload_n 2, 1) := by decide +kernel
theorem dX0_joinRaised_68 : decode cX0_joinRaised 68 = .ok (.ishl, 1) := by decide +kernel
theorem dX0_joinRaised_69 : decode cX0_joinRaised 69 = .ok (.lshl, 1) := by decide +kernel
theorem dX0_joinRaised_70 : decode cX0_joinRaised 70 = .ok (.lor, 1) := by decide +kernel
theorem dX0_joinRaised_71 : decode cX0_joinRaised 71 = .ok (.putfield 19, 3) := by decide +kernel
theorem dX0_joinRaised_74 : decode cX0_joinRaised 74 = .ok (.return_, 1) := by decide +kernel
theorem dX0_becomeShadow_0 : decode cX0_becomeShadow 0 = .ok (.aload_n 0, 1) := by decide +kernel
theorem dX0_becomeShadow_1 : decode cX0_becomeShadow 1 = .ok (.aload_n 1, 1) := by decide +kernel
theorem dX0_becomeShadow_2 : decode cX0_becomeShadow 2 = .ok (.getfield 9, 3) := by decide +kernel
theorem dX0_becomeShadow_5 : decode cX0_becomeShadow 5 = .ok (.invokevirtual 66, 3) := by decide +kernel
theorem dX0_becomeShadow_8 : decode cX0_becomeShadow 8 = .ok (.iconst 0, 1) := by decide +kernel
theorem dX0_becomeShadow_9 : decode cX0_becomeShadow 9 = .ok (.istore_n 2, 1) := by decide +kernel
theorem dX0_becomeShadow_10 : decode cX0_becomeShadow 10 = .ok (.iload_n 2, 1) := by decide +kernel
theorem dX0_becomeShadow_11 : decode cX0_becomeShadow 11 = .ok (.aload_n 0, 1) := by decide +kernel
theorem dX0_becomeShadow_12 : decode cX0_becomeShadow 12 = .ok (.getfield 9, 3) := by decide +kernel
theorem dX0_becomeShadow_15 : decode cX0_becomeShadow 15 = .ok (.if_icmp .ge 15, 3) := by decide +kernel
theorem dX0_becomeShadow_18 : decode cX0_becomeShadow 18 = .ok (.aload_n 0, 1) := by decide +kernel
theorem dX0_becomeShadow_19 : decode cX0_becomeShadow 19 = .ok (.aload_n 1, 1) := by decide +kernel
theorem dX0_becomeShadow_20 : decode cX0_becomeShadow 20 = .ok (.iload_n 2, 1) := by decide +kernel
theorem dX0_becomeShadow_21 : decode cX0_becomeShadow 21 = .ok (.invokevirtual 69, 3) := by decide +kernel
theorem dX0_becomeShadow_24 : decode cX0_becomeShadow 24 = .ok (.iinc 2 1, 3) := by decide +kernel
theorem dX0_becomeShadow_27 : decode cX0_becomeShadow 27 = .ok (.goto (-17), 3) := by decide +kernel
theorem dX0_becomeShadow_30 : decode cX0_becomeShadow 30 = .ok (.return_, 1) := by decide +kernel
theorem dX0_becomeShade_0 : decode cX0_becomeShade 0 = .ok (.aload_n 0, 1) := by decide +kernel
theorem dX0_becomeShade_1 : decode cX0_becomeShade 1 = .ok (.aload_n 1, 1) := by decide +kernel
theorem dX0_becomeShade_2 : decode cX0_becomeShade 2 = .ok (.getfield 9, 3) := by decide +kernel
theorem dX0_becomeShade_5 : decode cX0_becomeShade 5 = .ok (.invokevirtual 66, 3) := by decide +kernel
theorem dX0_becomeShade_8 : decode cX0_becomeShade 8 = .ok (.iconst 0, 1) := by decide +kernel
theorem dX0_becomeShade_9 : decode cX0_becomeShade 9 = .ok (.istore_n 2, 1) := by decide +kernel
theorem dX0_becomeShade_10 : decode cX0_becomeShade 10 = .ok (.iload_n 2, 1) := by decide +kernel
theorem dX0_becomeShade_11 : decode cX0_becomeShade 11 = .ok (.aload_n 0, 1) := by decide +kernel
theorem dX0_becomeShade_12 : decode cX0_becomeShade 12 = .ok (.getfield 9, 3) := by decide +kernel
theorem dX0_becomeShade_15 : decode cX0_becomeShade 15 = .ok (.if_icmp .ge 15, 3) := by decide +kernel
theorem dX0_becomeShade_18 : decode cX0_becomeShade 18 = .ok (.aload_n 0, 1) := by decide +kernel
theorem dX0_becomeShade_19 : decode cX0_becomeShade 19 = .ok (.aload_n 1, 1) := by decide +kernel
theorem dX0_becomeShade_20 : decode cX0_becomeShade 20 = .ok (.iload_n 2, 1) := by decide +kernel
theorem dX0_becomeShade_21 : decode cX0_becomeShade 21 = .ok (.invokevirtual 73, 3) := by decide +kernel
theorem dX0_becomeShade_24 : decode cX0_becomeShade 24 = .ok (.iinc 2 1, 3) := by decide +kernel
theorem dX0_becomeShade_27 : decode cX0_becomeShade 27 = .ok (.goto (-17), 3) := by decide +kernel
theorem dX0_becomeShade_30 : decode cX0_becomeShade 30 = .ok (.return_, 1) := by decide +kernel
theorem dX0_closeDown_0 : decode cX0_closeDown 0 = .ok (.iconst 0, 1) := by decide +kernel
theorem dX0_closeDown_1 : decode cX0_closeDown 1 = .ok (.istore_n 1, 1) := by decide +kernel
theorem dX0_closeDown_2 : decode cX0_closeDown 2 = .ok (.iload_n 1, 1) := by decide +kernel
theorem dX0_closeDown_3 : decode cX0_closeDown 3 = .ok (.aload_n 0, 1) := by decide +kernel
theorem dX0_closeDown_4 : decode cX0_closeDown 4 = .ok (.getfield 9, 3) := by decide +kernel
theorem dX0_closeDown_7 : decode cX0_closeDown 7 = .ok (.if_icmp .ge 15, 3) := by decide +kernel
theorem dX0_closeDown_10 : decode cX0_closeDown 10 = .ok (.aload_n 0, 1) := by decide +kernel
theorem dX0_closeDown_11 : decode cX0_closeDown 11 = .ok (.aload_n 0, 1) := by decide +kernel
theorem dX0_closeDown_12 : decode cX0_closeDown 12 = .ok (.iload_n 1, 1) := by decide +kernel
theorem dX0_closeDown_13 : decode cX0_closeDown 13 = .ok (.invokevirtual 69, 3) := by decide +kernel
theorem dX0_closeDown_16 : decode cX0_closeDown 16 = .ok (.iinc 1 1, 3) := by decide +kernel
theorem dX0_closeDown_19 : decode cX0_closeDown 19 = .ok (.goto (-17), 3) := by decide +kernel
theorem dX0_closeDown_22 : decode cX0_closeDown 22 = .ok (.return_, 1) := by decide +kernel
theorem dX0_closeUp_0 : decode cX0_closeUp 0 = .ok (.iconst 0, 1) := by decide +kernel
theorem dX0_closeUp_1 : decode cX0_closeUp 1 = .ok (.istore_n 1, 1) := by decide +kernel
theorem dX0_closeUp_2 : decode cX0_closeUp 2 = .ok (.iload_n 1, 1) := by decide +kernel
theorem dX0_closeUp_3 : decode cX0_closeUp 3 = .ok (.aload_n 0, 1) := by decide +kernel
theorem dX0_closeUp_4 : decode cX0_closeUp 4 = .ok (.getfield 9, 3) := by decide +kernel
theorem dX0_closeUp_7 : decode cX0_closeUp 7 = .ok (.if_icmp .ge 15, 3) := by decide +kernel
theorem dX0_closeUp_10 : decode cX0_closeUp 10 = .ok (.aload_n 0, 1) := by decide +kernel
theorem dX0_closeUp_11 : decode cX0_closeUp 11 = .ok (.aload_n 0, 1) := by decide +kernel
theorem dX0_closeUp_12 : decode cX0_closeUp 12 = .ok (.iload_n 1, 1) := by decide +kernel
theorem dX0_closeUp_13 : decode cX0_closeUp 13 = .ok (.invokevirtual 73, 3) := by decide +kernel
theorem dX0_closeUp_16 : decode cX0_closeUp 16 = .ok (.iinc 1 1, 3) := by decide +kernel
theorem dX0_closeUp_19 : decode cX0_closeUp 19 = .ok (.goto (-17), 3) := by decide +kernel
theorem dX0_closeUp_22 : decode cX0_closeUp 22 = .ok (.return_, 1) := by decide +kernel
theorem dX0_turnOver_0 : decode cX0_turnOver 0 = .ok (.iconst 0, 1) := by decide +kernel
theorem dX0_turnOver_1 : decode cX0_turnOver 1 = .ok (.istore_n 1, 1) := by decide +kernel
theorem dX0_turnOver_2 : decode cX0_turnOver 2 = .ok (.iload_n 1, 1) := by decide +kernel
theorem dX0_turnOver_3 : decode cX0_turnOver 3 = .ok (.aload_n 0, 1) := by decide +kernel
theorem dX0_turnOver_4 : decode cX0_turnOver 4 = .ok (.getfield 9, 3) := by decide +kernel
theorem dX0_turnOver_7 : decode cX0_turnOver 7 = .ok (.if_icmp .ge 105, 3) := by decide +kernel
theorem dX0_turnOver_10 : decode cX0_turnOver 10 = .ok (.aload_n 0, 1) := by decide +kernel
theorem dX0_turnOver_11 : decode cX0_turnOver 11 = .ok (.getfield 15, 3) := by decide +kernel
theorem dX0_turnOver_14 : decode cX0_turnOver 14 = .ok (.lstore_n 2, 1) := by decide +kernel
theorem dX0_turnOver_15 : decode cX0_turnOver 15 = .ok (.aload_n 0, 1) := by decide +kernel
theorem dX0_turnOver_16 : decode cX0_turnOver 16 = .ok (.getfield 19, 3) := by decide +kernel
theorem dX0_turnOver_19 : decode cX0_turnOver 19 = .ok (.lstore 4, 2) := by decide +kernel
theorem dX0_turnOver_21 : decode cX0_turnOver 21 = .ok (.iload_n 1, 1) := by decide +kernel
theorem dX0_turnOver_22 : decode cX0_turnOver 22 = .ok (.bipush 6, 2) := by decide +kernel
theorem dX0_turnOver_24 : decode cX0_turnOver 24 = .ok (.if_icmp .ne 17, 3) := by decide +kernel
theorem dX0_turnOver_27 : decode cX0_turnOver 27 = .ok (.aload_n 0, 1) := by decide +kernel
theorem dX0_turnOver_28 : decode cX0_turnOver 28 = .ok (.lload 4, 2) := by decide +kernel
theorem dX0_turnOver_30 : decode cX0_turnOver 30 = .ok (.putfield 15, 3) := by decide +kernel
theorem dX0_turnOver_33 : decode cX0_turnOver 33 = .ok (.aload_n 0, 1) := by decide +kernel
theorem dX0_turnOver_34 : decode cX0_turnOver 34 = .ok (.lload_n 2, 1) := by decide +kernel
theorem dX0_turnOver_35 : decode cX0_turnOver 35 = .ok (.putfield 19, 3) := by decide +kernel
theorem dX0_turnOver_38 : decode cX0_turnOver 38 = .ok (.goto 68, 3) := by decide +kernel
theorem dX0_turnOver_41 : decode cX0_turnOver 41 = .ok (.iconst 1, 1) := by decide +kernel
theorem dX0_turnOver_42 : decode cX0_turnOver 42 = .ok (.iload_n 1, 1) := by decide +kernel
theorem dX0_turnOver_43 : decode cX0_turnOver 43 = .ok (.ishl, 1) := by decide +kernel
theorem dX0_turnOver_44 : decode cX0_turnOver 44 = .ok (.istore 6, 2) := by decide +kernel
theorem dX0_turnOver_46 : decode cX0_turnOver 46 = .ok (.aload_n 0, 1) := by decide +kernel
theorem dX0_turnOver_47 : decode cX0_turnOver 47 = .ok (.lload_n 2, 1) := by decide +kernel
theorem dX0_turnOver_48 : decode cX0_turnOver 48 = .ok (.getstatic 41, 3) := by decide +kernel
theorem dX0_turnOver_51 : decode cX0_turnOver 51 = .ok (.iload_n 1, 1) := by decide +kernel
theorem dX0_turnOver_52 : decode cX0_turnOver 52 = .ok (.laload, 1) := by decide +kernel
theorem dX0_turnOver_53 : decode cX0_turnOver 53 = .ok (.land, 1) := by decide +kernel
theorem dX0_turnOver_54 : decode cX0_turnOver 54 = .ok (.iload 6, 2) := by decide +kernel
theorem dX0_turnOver_56 : decode cX0_turnOver 56 = .ok (.lushr, 1) := by decide +kernel
theorem dX0_turnOver_57 : decode cX0_turnOver 57 = .ok (.lload_n 2, 1) := by decide +kernel
theorem dX0_turnOver_58 : decode cX0_turnOver 58 = .ok (.getstatic 41, 3) := by decide +kernel
theorem dX0_turnOver_61 : decode cX0_turnOver 61 = .ok (.iload_n 1, 1) := by decide +kernel
theorem dX0_turnOver_62 : decode cX0_turnOver 62 = .ok (.laload, 1) := by decide +kernel
theorem dX0_turnOver_63 : decode cX0_turnOver 63 = .ok (.ldc2_w 57, 3) := by decide +kernel
theorem dX0_turnOver_66 : decode cX0_turnOver 66 = .ok (.lxor, 1) := by decide +kernel
theorem dX0_turnOver_67 : decode cX0_turnOver 67 = .ok (.land, 1) := by decide +kernel
theorem dX0_turnOver_68 : decode cX0_turnOver 68 = .ok (.iload 6, 2) := by decide +kernel
theorem dX0_turnOver_70 : decode cX0_turnOver 70 = .ok (.lshl, 1) := by decide +kernel
theorem dX0_turnOver_71 : decode cX0_turnOver 71 = .ok (.lor, 1) := by decide +kernel
theorem dX0_turnOver_72 : decode cX0_turnOver 72 = .ok (.putfield 15, 3) := by decide +kernel
theorem dX0_turnOver_75 : decode cX0_turnOver 75 = .ok (.aload_n 0, 1) := by decide +kernel
theorem dX0_turnOver_76 : decode cX0_turnOver 76 = .ok (.lload 4, 2) := by decide +kernel
theorem dX0_turnOver_78 : decode cX0_turnOver 78 = .ok (.getstatic 45, 3) := by decide +kernel
theorem dX0_turnOver_81 : decode cX0_turnOver 81 = .ok (.iload_n 1, 1) := by decide +kernel
theorem dX0_turnOver_82 : decode cX0_turnOver 82 = .ok (.laload, 1) := by decide +kernel
theorem dX0_turnOver_83 : decode cX0_turnOver 83 = .ok (.land, 1) := by decide +kernel
theorem dX0_turnOver_84 : decode cX0_turnOver 84 = .ok (.iload 6, 2) := by decide +kernel
theorem dX0_turnOver_86 : decode cX0_turnOver 86 = .ok (.lushr, 1) := by decide +kernel
theorem dX0_turnOver_87 : decode cX0_turnOver 87 = .ok (.lload 4, 2) := by decide +kernel
theorem dX0_turnOver_89 : decode cX0_turnOver 89 = .ok (.getstatic 45, 3) := by decide +kernel
theorem dX0_turnOver_92 : decode cX0_turnOver 92 = .ok (.iload_n 1, 1) := by decide +kernel
theorem dX0_turnOver_93 : decode cX0_turnOver 93 = .ok (.laload, 1) := by decide +kernel
theorem dX0_turnOver_94 : decode cX0_turnOver 94 = .ok (.ldc2_w 57, 3) := by decide +kernel
theorem dX0_turnOver_97 : decode cX0_turnOver 97 = .ok (.lxor, 1) := by decide +kernel
theorem dX0_turnOver_98 : decode cX0_turnOver 98 = .ok (.land, 1) := by decide +kernel
theorem dX0_turnOver_99 : decode cX0_turnOver 99 = .ok (.iload 6, 2) := by decide +kernel
theorem dX0_turnOver_101 : decode cX0_turnOver 101 = .ok (.lshl, 1) := by decide +kernel
theorem dX0_turnOver_102 : decode cX0_turnOver 102 = .ok (.lor, 1) := by decide +kernel
theorem dX0_turnOver_103 : decode cX0_turnOver 103 = .ok (.putfield 19, 3) := by decide +kernel
theorem dX0_turnOver_106 : decode cX0_turnOver 106 = .ok (.iinc 1 1, 3) := by decide +kernel
theorem dX0_turnOver_109 : decode cX0_turnOver 109 = .ok (.goto (-107), 3) := by decide +kernel
theorem dX0_turnOver_112 : decode cX0_turnOver 112 = .ok (.return_, 1) := by decide +kernel
theorem dX0_cutTo_0 : decode cX0_cutTo 0 = .ok (.iconst 0, 1) := by decide +kernel
theorem dX0_cutTo_1 : decode cX0_cutTo 1 = .ok (.istore_n 2, 1) := by decide +kernel
theorem dX0_cutTo_2 : decode cX0_cutTo 2 = .ok (.iload_n 2, 1) := by decide +kernel
theorem dX0_cutTo_3 : decode cX0_cutTo 3 = .ok (.aload_n 0, 1) := by decide +kernel
theorem dX0_cutTo_4 : decode cX0_cutTo 4 = .ok (.getfield 9, 3) := by decide +kernel
theorem dX0_cutTo_7 : decode cX0_cutTo 7 = .ok (.if_icmp .ge 28, 3) := by decide +kernel
theorem dX0_cutTo_10 : decode cX0_cutTo 10 = .ok (.iload_n 1, 1) := by decide +kernel
theorem dX0_cutTo_11 : decode cX0_cutTo 11 = .ok (.iload_n 2, 1) := by decide +kernel
theorem dX0_cutTo_12 : decode cX0_cutTo 12 = .ok (.ishr, 1) := by decide +kernel
theorem dX0_cutTo_13 : decode cX0_cutTo 13 = .ok (.iconst 1, 1) := by decide +kernel
theorem dX0_cutTo_14 : decode cX0_cutTo 14 = .ok (.iand, 1) := by decide +kernel
theorem dX0_cutTo_15 : decode cX0_cutTo 15 = .ok (.ifCond .ne 14, 3) := by decide +kernel
theorem dX0_cutTo_18 : decode cX0_cutTo 18 = .ok (.aload_n 0, 1) := by decide +kernel
theorem dX0_cutTo_19 : decode cX0_cutTo 19 = .ok (.aload_n 0, 1) := by decide +kernel
theorem dX0_cutTo_20 : decode cX0_cutTo 20 = .ok (.iload_n 2, 1) := by decide +kernel
theorem dX0_cutTo_21 : decode cX0_cutTo 21 = .ok (.invokevirtual 69, 3) := by decide +kernel
theorem dX0_cutTo_24 : decode cX0_cutTo 24 = .ok (.aload_n 0, 1) := by decide +kernel
theorem dX0_cutTo_25 : decode cX0_cutTo 25 = .ok (.iload_n 2, 1) := by decide +kernel
theorem dX0_cutTo_26 : decode cX0_cutTo 26 = .ok (.invokevirtual 63, 3) := by decide +kernel
theorem dX0_cutTo_29 : decode cX0_cutTo 29 = .ok (.iinc 2 1, 3) := by decide +kernel
theorem dX0_cutTo_32 : decode cX0_cutTo 32 = .ok (.goto (-30), 3) := by decide +kernel
theorem dX0_cutTo_35 : decode cX0_cutTo 35 = .ok (.return_, 1) := by decide +kernel
theorem dX0_widenBy_0 : decode cX0_widenBy 0 = .ok (.iconst 0, 1) := by decide +kernel
theorem dX0_widenBy_1 : decode cX0_widenBy 1 = .ok (.istore_n 2, 1) := by decide +kernel
theorem dX0_widenBy_2 : decode cX0_widenBy 2 = .ok (.iload_n 2, 1) := by decide +kernel
theorem dX0_widenBy_3 : decode cX0_widenBy 3 = .ok (.aload_n 0, 1) := by decide +kernel
theorem dX0_widenBy_4 : decode cX0_widenBy 4 = .ok (.getfield 9, 3) := by decide +kernel
theorem dX0_widenBy_7 : decode cX0_widenBy 7 = .ok (.if_icmp .ge 29, 3) := by decide +kernel
theorem dX0_widenBy_10 : decode cX0_widenBy 10 = .ok (.iload_n 1, 1) := by decide +kernel
theorem dX0_widenBy_11 : decode cX0_widenBy 11 = .ok (.iload_n 2, 1) := by decide +kernel
theorem dX0_widenBy_12 : decode cX0_widenBy 12 = .ok (.ishr, 1) := by decide +kernel
theorem dX0_widenBy_13 : decode cX0_widenBy 13 = .ok (.iconst 1, 1) := by decide +kernel
theorem dX0_widenBy_14 : decode cX0_widenBy 14 = .ok (.iand, 1) := by decide +kernel
theorem dX0_widenBy_15 : decode cX0_widenBy 15 = .ok (.iconst 1, 1) := by decide +kernel
theorem dX0_widenBy_16 : decode cX0_widenBy 16 = .ok (.if_icmp .ne 14, 3) := by decide +kernel
theorem dX0_widenBy_19 : decode cX0_widenBy 19 = .ok (.aload_n 0, 1) := by decide +kernel
theorem dX0_widenBy_20 : decode cX0_widenBy 20 = .ok (.aload_n 0, 1) := by decide +kernel
theorem dX0_widenBy_21 : decode cX0_widenBy 21 = .ok (.iload_n 2, 1) := by decide +kernel
theorem dX0_widenBy_22 : decode cX0_widenBy 22 = .ok (.invokevirtual 73, 3) := by decide +kernel
theorem dX0_widenBy_25 : decode cX0_widenBy 25 = .ok (.aload_n 0, 1) := by decide +kernel
theorem dX0_widenBy_26 : decode cX0_widenBy 26 = .ok (.iload_n 2, 1) := by decide +kernel
theorem dX0_widenBy_27 : decode cX0_widenBy 27 = .ok (.invokevirtual 59, 3) := by decide +kernel
theorem dX0_widenBy_30 : decode cX0_widenBy 30 = .ok (.iinc 2 1, 3) := by decide +kernel
theorem dX0_widenBy_33 : decode cX0_widenBy 33 = .ok (.goto (-31), 3) := by decide +kernel
theorem dX0_widenBy_36 : decode cX0_widenBy 36 = .ok (.return_, 1) := by decide +kernel
theorem dX0_closeByMeets_0 : decode cX0_closeByMeets 0 = .ok (.iconst 0, 1) := by decide +kernel
theorem dX0_closeByMeets_1 : decode cX0_closeByMeets 1 = .ok (.istore_n 3, 1) := by decide +kernel
theorem dX0_closeByMeets_2 : decode cX0_closeByMeets 2 = .ok (.iload_n 3, 1) := by decide +kernel
theorem dX0_closeByMeets_3 : decode cX0_closeByMeets 3 = .ok (.aload_n 1, 1) := by decide +kernel
theorem dX0_closeByMeets_4 : decode cX0_closeByMeets 4 = .ok (.invokevirtual 22, 3) := by decide +kernel
theorem dX0_closeByMeets_7 : decode cX0_closeByMeets 7 = .ok (.if_icmp .ge 32, 3) := by decide +kernel
theorem dX0_closeByMeets_10 : decode cX0_closeByMeets 10 = .ok (.aload_n 1, 1) := by decide +kernel
theorem dX0_closeByMeets_11 : decode cX0_closeByMeets 11 = .ok (.iload_n 3, 1) := by decide +kernel
theorem dX0_closeByMeets_12 : decode cX0_closeByMeets 12 = .ok (.invokevirtual 37, 3) := by decide +kernel
theorem dX0_closeByMeets_15 : decode cX0_closeByMeets 15 = .ok (.ifCond .eq 18, 3) := by decide +kernel
theorem dX0_closeByMeets_18 : decode cX0_closeByMeets 18 = .ok (.aload_n 2, 1) := by decide +kernel
theorem dX0_closeByMeets_19 : decode cX0_closeByMeets 19 = .ok (.aload_n 0, 1) := by decide +kernel
theorem dX0_closeByMeets_20 : decode cX0_closeByMeets 20 = .ok (.invokevirtual 76, 3) := by decide +kernel
theorem dX0_closeByMeets_23 : decode cX0_closeByMeets 23 = .ok (.aload_n 2, 1) := by decide +kernel
theorem dX0_closeByMeets_24 : decode cX0_closeByMeets 24 = .ok (.iload_n 3, 1) := by decide +kernel
theorem dX0_closeByMeets_25 : decode cX0_closeByMeets 25 = .ok (.invokevirtual 80, 3) := by decide +kernel
theorem dX0_closeByMeets_28 : decode cX0_closeByMeets 28 = .ok (.aload_n 0, 1) := by decide +kernel
theorem dX0_closeByMeets_29 : decode cX0_closeByMeets 29 = .ok (.aload_n 2, 1) := by decide +kernel
theorem dX0_closeByMeets_30 : decode cX0_closeByMeets 30 = .ok (.invokevirtual 83, 3) := by decide +kernel
theorem dX0_closeByMeets_33 : decode cX0_closeByMeets 33 = .ok (.iinc 3 1, 3) := by decide +kernel
theorem dX0_closeByMeets_36 : decode cX0_closeByMeets 36 = .ok (.goto (-34), 3) := by decide +kernel
theorem dX0_closeByMeets_39 : decode cX0_closeByMeets 39 = .ok (.return_, 1) := by decide +kernel
theorem dX0_closeByJoins_0 : decode cX0_closeByJoins 0 = .ok (.iconst 0, 1) := by decide +kernel
theorem dX0_closeByJoins_1 : decode cX0_closeByJoins 1 = .ok (.istore_n 3, 1) := by decide +kernel
theorem dX0_closeByJoins_2 : decode cX0_closeByJoins 2 = .ok (.iload_n 3, 1) := by decide +kernel
theorem dX0_closeByJoins_3 : decode cX0_closeByJoins 3 = .ok (.aload_n 1, 1) := by decide +kernel
theorem dX0_closeByJoins_4 : decode cX0_closeByJoins 4 = .ok (.invokevirtual 22, 3) := by decide +kernel
theorem dX0_closeByJoins_7 : decode cX0_closeByJoins 7 = .ok (.if_icmp .ge 32, 3) := by decide +kernel
theorem dX0_closeByJoins_10 : decode cX0_closeByJoins 10 = .ok (.aload_n 1, 1) := by decide +kernel
theorem dX0_closeByJoins_11 : decode cX0_closeByJoins 11 = .ok (.iload_n 3, 1) := by decide +kernel
theorem dX0_closeByJoins_12 : decode cX0_closeByJoins 12 = .ok (.invokevirtual 37, 3) := by decide +kernel
theorem dX0_closeByJoins_15 : decode cX0_closeByJoins 15 = .ok (.ifCond .eq 18, 3) := by decide +kernel
theorem dX0_closeByJoins_18 : decode cX0_closeByJoins 18 = .ok (.aload_n 2, 1) := by decide +kernel
theorem dX0_closeByJoins_19 : decode cX0_closeByJoins 19 = .ok (.aload_n 0, 1) := by decide +kernel
theorem dX0_closeByJoins_20 : decode cX0_closeByJoins 20 = .ok (.invokevirtual 76, 3) := by decide +kernel
theorem dX0_closeByJoins_23 : decode cX0_closeByJoins 23 = .ok (.aload_n 2, 1) := by decide +kernel
theorem dX0_closeByJoins_24 : decode cX0_closeByJoins 24 = .ok (.iload_n 3, 1) := by decide +kernel
theorem dX0_closeByJoins_25 : decode cX0_closeByJoins 25 = .ok (.invokevirtual 86, 3) := by decide +kernel
theorem dX0_closeByJoins_28 : decode cX0_closeByJoins 28 = .ok (.aload_n 0, 1) := by decide +kernel
theorem dX0_closeByJoins_29 : decode cX0_closeByJoins 29 = .ok (.aload_n 2, 1) := by decide +kernel
theorem dX0_closeByJoins_30 : decode cX0_closeByJoins 30 = .ok (.invokevirtual 83, 3) := by decide +kernel
theorem dX0_closeByJoins_33 : decode cX0_closeByJoins 33 = .ok (.iinc 3 1, 3) := by decide +kernel
theorem dX0_closeByJoins_36 : decode cX0_closeByJoins 36 = .ok (.goto (-34), 3) := by decide +kernel
theorem dX0_closeByJoins_39 : decode cX0_closeByJoins 39 = .ok (.return_, 1) := by decide +kernel
theorem dX0_becomeLowest_0 : decode cX0_becomeLowest 0 = .ok (.aload_n 0, 1) := by decide +kernel
theorem dX0_becomeLowest_1 : decode cX0_becomeLowest 1 = .ok (.aload_n 1, 1) := by decide +kernel
theorem dX0_becomeLowest_2 : decode cX0_becomeLowest 2 = .ok (.invokevirtual 89, 3) := by decide +kernel
theorem dX0_becomeLowest_5 : decode cX0_becomeLowest 5 = .ok (.aload_n 0, 1) := by decide +kernel
theorem dX0_becomeLowest_6 : decode cX0_becomeLowest 6 = .ok (.invokevirtual 92, 3) := by decide +kernel
theorem dX0_becomeLowest_9 : decode cX0_becomeLowest 9 = .ok (.aload_n 0, 1) := by decide +kernel
theorem dX0_becomeLowest_10 : decode cX0_becomeLowest 10 = .ok (.aload_n 1, 1) := by decide +kernel
theorem dX0_becomeLowest_11 : decode cX0_becomeLowest 11 = .ok (.invokevirtual 95, 3) := by decide +kernel
theorem dX0_becomeLowest_14 : decode cX0_becomeLowest 14 = .ok (.return_, 1) := by decide +kernel
theorem dX0_becomeHighest_0 : decode cX0_becomeHighest 0 = .ok (.aload_n 0, 1) := by decide +kernel
theorem dX0_becomeHighest_1 : decode cX0_becomeHighest 1 = .ok (.aload_n 1, 1) := by decide +kernel
theorem dX0_becomeHighest_2 : decode cX0_becomeHighest 2 = .ok (.invokevirtual 98, 3) := by decide +kernel
theorem dX0_becomeHighest_5 : decode cX0_becomeHighest 5 = .ok (.aload_n 0, 1) := by decide +kernel
theorem dX0_becomeHighest_6 : decode cX0_becomeHighest 6 = .ok (.invokevirtual 101, 3) := by decide +kernel
theorem dX0_becomeHighest_9 : decode cX0_becomeHighest 9 = .ok (.aload_n 0, 1) := by decide +kernel
theorem dX0_becomeHighest_10 : decode cX0_becomeHighest 10 = .ok (.aload_n 1, 1) := by decide +kernel
theorem dX0_becomeHighest_11 : decode cX0_becomeHighest 11 = .ok (.invokevirtual 95, 3) := by decide +kernel
theorem dX0_becomeHighest_14 : decode cX0_becomeHighest 14 = .ok (.return_, 1) := by decide +kernel
theorem dX0_becomeAnswers_0 : decode cX0_becomeAnswers 0 = .ok (.aload_n 0, 1) := by decide +kernel
theorem dX0_becomeAnswers_1 : decode cX0_becomeAnswers 1 = .ok (.aload_n 1, 1) := by decide +kernel
theorem dX0_becomeAnswers_2 : decode cX0_becomeAnswers 2 = .ok (.invokevirtual 76, 3) := by decide +kernel
theorem dX0_becomeAnswers_5 : decode cX0_becomeAnswers 5 = .ok (.aload_n 0, 1) := by decide +kernel
theorem dX0_becomeAnswers_6 : decode cX0_becomeAnswers 6 = .ok (.invokevirtual 92, 3) := by decide +kernel
theorem dX0_becomeAnswers_9 : decode cX0_becomeAnswers 9 = .ok (.aload_n 0, 1) := by decide +kernel
theorem dX0_becomeAnswers_10 : decode cX0_becomeAnswers 10 = .ok (.invokevirtual 104, 3) := by decide +kernel
theorem dX0_becomeAnswers_13 : decode cX0_becomeAnswers 13 = .ok (.aload_n 0, 1) := by decide +kernel
theorem dX0_becomeAnswers_14 : decode cX0_becomeAnswers 14 = .ok (.getfield 15, 3) := by decide +kernel
theorem dX0_becomeAnswers_17 : decode cX0_becomeAnswers 17 = .ok (.ldc2_w 57, 3) := by decide +kernel
theorem dX0_becomeAnswers_20 : decode cX0_becomeAnswers 20 = .ok (.lxor, 1) := by decide +kernel
theorem dX0_becomeAnswers_21 : decode cX0_becomeAnswers 21 = .ok (.lstore_n 2, 1) := by decide +kernel
theorem dX0_becomeAnswers_22 : decode cX0_becomeAnswers 22 = .ok (.aload_n 0, 1) := by decide +kernel
theorem dX0_becomeAnswers_23 : decode cX0_becomeAnswers 23 = .ok (.getfield 19, 3) := by decide +kernel
theorem dX0_becomeAnswers_26 : decode cX0_becomeAnswers 26 = .ok (.ldc2_w 57, 3) := by decide +kernel
theorem dX0_becomeAnswers_29 : decode cX0_becomeAnswers 29 = .ok (.lxor, 1) := by decide +kernel
theorem dX0_becomeAnswers_30 : decode cX0_becomeAnswers 30 = .ok (.lstore 4, 2) := by decide +kernel
theorem dX0_becomeAnswers_32 : decode cX0_becomeAnswers 32 = .ok (.aload_n 0, 1) := by decide +kernel
theorem dX0_becomeAnswers_33 : decode cX0_becomeAnswers 33 = .ok (.aload_n 1, 1) := by decide +kernel
theorem dX0_becomeAnswers_34 : decode cX0_becomeAnswers 34 = .ok (.getfield 9, 3) := by decide +kernel
theorem dX0_becomeAnswers_37 : decode cX0_becomeAnswers 37 = .ok (.invokevirtual 107, 3) := by decide +kernel
theorem dX0_becomeAnswers_40 : decode cX0_becomeAnswers 40 = .ok (.aload_n 0, 1) := by decide +kernel
theorem dX0_becomeAnswers_41 : decode cX0_becomeAnswers 41 = .ok (.dup, 1) := by decide +kernel
theorem dX0_becomeAnswers_42 : decode cX0_becomeAnswers 42 = .ok (.getfield 15, 3) := by decide +kernel
theorem dX0_becomeAnswers_45 : decode cX0_becomeAnswers 45 = .ok (.lload_n 2, 1) := by decide +kernel
theorem dX0_becomeAnswers_46 : decode cX0_becomeAnswers 46 = .ok (.land, 1) := by decide +kernel
theorem dX0_becomeAnswers_47 : decode cX0_becomeAnswers 47 = .ok (.putfield 15, 3) := by decide +kernel
theorem dX0_becomeAnswers_50 : decode cX0_becomeAnswers 50 = .ok (.aload_n 0, 1) := by decide +kernel
theorem dX0_becomeAnswers_51 : decode cX0_becomeAnswers 51 = .ok (.dup, 1) := by decide +kernel
theorem dX0_becomeAnswers_52 : decode cX0_becomeAnswers 52 = .ok (.getfield 19, 3) := by decide +kernel
theorem dX0_becomeAnswers_55 : decode cX0_becomeAnswers 55 = .ok (.lload 4, 2) := by decide +kernel
theorem dX0_becomeAnswers_57 : decode cX0_becomeAnswers 57 = .ok (.land, 1) := by decide +kernel
theorem dX0_becomeAnswers_58 : decode cX0_becomeAnswers 58 = .ok (.putfield 19, 3) := by decide +kernel
theorem dX0_becomeAnswers_61 : decode cX0_becomeAnswers 61 = .ok (.return_, 1) := by decide +kernel
theorem dX0_becomeRestOf_0 : decode cX0_becomeRestOf 0 = .ok (.aload_n 0, 1) := by decide +kernel
theorem dX0_becomeRestOf_1 : decode cX0_becomeRestOf 1 = .ok (.aload_n 1, 1) := by decide +kernel
theorem dX0_becomeRestOf_2 : decode cX0_becomeRestOf 2 = .ok (.getfield 15, 3) := by decide +kernel
theorem dX0_becomeRestOf_5 : decode cX0_becomeRestOf 5 = .ok (.aload_n 0, 1) := by decide +kernel
theorem dX0_becomeRestOf_6 : decode cX0_becomeRestOf 6 = .ok (.getfield 15, 3) := by decide +kernel
theorem dX0_becomeRestOf_9 : decode cX0_becomeRestOf 9 = .ok (.ldc2_w 57, 3) := by decide +kernel
theorem dX0_becomeRestOf_12 : decode cX0_becomeRestOf 12 = .ok (.lxor, 1) := by decide +kernel
theorem dX0_becomeRestOf_13 : decode cX0_becomeRestOf 13 = .ok (.land, 1) := by decide +kernel
theorem dX0_becomeRestOf_14 : decode cX0_becomeRestOf 14 = .ok (.putfield 15, 3) := by decide +kernel
theorem dX0_becomeRestOf_17 : decode cX0_becomeRestOf 17 = .ok (.aload_n 0, 1) := by decide +kernel
theorem dX0_becomeRestOf_18 : decode cX0_becomeRestOf 18 = .ok (.aload_n 1, 1) := by decide +kernel
theorem dX0_becomeRestOf_19 : decode cX0_becomeRestOf 19 = .ok (.getfield 19, 3) := by decide +kernel
theorem dX0_becomeRestOf_22 : decode cX0_becomeRestOf 22 = .ok (.aload_n 0, 1) := by decide +kernel
theorem dX0_becomeRestOf_23 : decode cX0_becomeRestOf 23 = .ok (.getfield 19, 3) := by decide +kernel
theorem dX0_becomeRestOf_26 : decode cX0_becomeRestOf 26 = .ok (.ldc2_w 57, 3) := by decide +kernel
theorem dX0_becomeRestOf_29 : decode cX0_becomeRestOf 29 = .ok (.lxor, 1) := by decide +kernel
theorem dX0_becomeRestOf_30 : decode cX0_becomeRestOf 30 = .ok (.land, 1) := by decide +kernel
theorem dX0_becomeRestOf_31 : decode cX0_becomeRestOf 31 = .ok (.putfield 19, 3) := by decide +kernel
theorem dX0_becomeRestOf_34 : decode cX0_becomeRestOf 34 = .ok (.return_, 1) := by decide +kernel
theorem dX0_becomeComparable_0 : decode cX0_becomeComparable 0 = .ok (.aload_n 3, 1) := by decide +kernel
theorem dX0_becomeComparable_1 : decode cX0_becomeComparable 1 = .ok (.aload_n 1, 1) := by decide +kernel
theorem dX0_becomeComparable_2 : decode cX0_becomeComparable 2 = .ok (.invokevirtual 76, 3) := by decide +kernel
theorem dX0_becomeComparable_5 : decode cX0_becomeComparable 5 = .ok (.aload_n 3, 1) := by decide +kernel
theorem dX0_becomeComparable_6 : decode cX0_becomeComparable 6 = .ok (.bipush 127, 2) := by decide +kernel
theorem dX0_becomeComparable_8 : decode cX0_becomeComparable 8 = .ok (.iload_n 2, 1) := by decide +kernel
theorem dX0_becomeComparable_9 : decode cX0_becomeComparable 9 = .ok (.iconst (-1), 1) := by decide +kernel
theorem dX0_becomeComparable_10 : decode cX0_becomeComparable 10 = .ok (.ixor, 1) := by decide +kernel
theorem dX0_becomeComparable_11 : decode cX0_becomeComparable 11 = .ok (.iand, 1) := by decide +kernel
theorem dX0_becomeComparable_12 : decode cX0_becomeComparable 12 = .ok (.iconst 0, 1) := by decide +kernel
theorem dX0_becomeComparable_13 : decode cX0_becomeComparable 13 = .ok (.invokevirtual 110, 3) := by decide +kernel
theorem dX0_becomeComparable_16 : decode cX0_becomeComparable 16 = .ok (.aload_n 0, 1) := by decide +kernel
theorem dX0_becomeComparable_17 : decode cX0_becomeComparable 17 = .ok (.aload_n 1, 1) := by decide +kernel
theorem dX0_becomeComparable_18 : decode cX0_becomeComparable 18 = .ok (.invokevirtual 76, 3) := by decide +kernel
theorem dX0_becomeComparable_21 : decode cX0_becomeComparable 21 = .ok (.aload_n 0, 1) := by decide +kernel
theorem dX0_becomeComparable_22 : decode cX0_becomeComparable 22 = .ok (.iload_n 2, 1) := by decide +kernel
theorem dX0_becomeComparable_23 : decode cX0_becomeComparable 23 = .ok (.iload_n 2, 1) := by decide +kernel
theorem dX0_becomeComparable_24 : decode cX0_becomeComparable 24 = .ok (.invokevirtual 110, 3) := by decide +kernel
theorem dX0_becomeComparable_27 : decode cX0_becomeComparable 27 = .ok (.aload_n 0, 1) := by decide +kernel
theorem dX0_becomeComparable_28 : decode cX0_becomeComparable 28 = .ok (.aload_n 3, 1) := by decide +kernel
theorem dX0_becomeComparable_29 : decode cX0_becomeComparable 29 = .ok (.invokevirtual 83, 3) := by decide +kernel
theorem dX0_becomeComparable_32 : decode cX0_becomeComparable 32 = .ok (.return_, 1) := by decide +kernel
theorem dX0_becomeReplaced_0 : decode cX0_becomeReplaced 0 = .ok (.aload_n 0, 1) := by decide +kernel
theorem dX0_becomeReplaced_1 : decode cX0_becomeReplaced 1 = .ok (.aload_n 1, 1) := by decide +kernel
theorem dX0_becomeReplaced_2 : decode cX0_becomeReplaced 2 = .ok (.getfield 9, 3) := by decide +kernel
theorem dX0_becomeReplaced_5 : decode cX0_becomeReplaced 5 = .ok (.invokevirtual 66, 3) := by decide +kernel
theorem dX0_becomeReplaced_8 : decode cX0_becomeReplaced 8 = .ok (.aload_n 0, 1) := by decide +kernel
theorem dX0_becomeReplaced_9 : decode cX0_becomeReplaced 9 = .ok (.aload_n 1, 1) := by decide +kernel
theorem dX0_becomeReplaced_10 : decode cX0_becomeReplaced 10 = .ok (.iload_n 2, 1) := by decide +kernel
theorem dX0_becomeReplaced_11 : decode cX0_becomeReplaced 11 = .ok (.invokevirtual 69, 3) := by decide +kernel
theorem dX0_becomeReplaced_14 : decode cX0_becomeReplaced 14 = .ok (.aload_n 0, 1) := by decide +kernel
theorem dX0_becomeReplaced_15 : decode cX0_becomeReplaced 15 = .ok (.iload_n 3, 1) := by decide +kernel
theorem dX0_becomeReplaced_16 : decode cX0_becomeReplaced 16 = .ok (.invokevirtual 63, 3) := by decide +kernel
theorem dX0_becomeReplaced_19 : decode cX0_becomeReplaced 19 = .ok (.aload_n 0, 1) := by decide +kernel
theorem dX0_becomeReplaced_20 : decode cX0_becomeReplaced 20 = .ok (.aload_n 0, 1) := by decide +kernel
theorem dX0_becomeReplaced_21 : decode cX0_becomeReplaced 21 = .ok (.iload_n 3, 1) := by decide +kernel
theorem dX0_becomeReplaced_22 : decode cX0_becomeReplaced 22 = .ok (.invokevirtual 73, 3) := by decide +kernel
theorem dX0_becomeReplaced_25 : decode cX0_becomeReplaced 25 = .ok (.aload_n 0, 1) := by decide +kernel
theorem dX0_becomeReplaced_26 : decode cX0_becomeReplaced 26 = .ok (.iload_n 3, 1) := by decide +kernel
theorem dX0_becomeReplaced_27 : decode cX0_becomeReplaced 27 = .ok (.invokevirtual 59, 3) := by decide +kernel
theorem dX0_becomeReplaced_30 : decode cX0_becomeReplaced 30 = .ok (.return_, 1) := by decide +kernel
theorem dX0_exchange_0 : decode cX0_exchange 0 = .ok (.aload_n 3, 1) := by decide +kernel
theorem dX0_exchange_1 : decode cX0_exchange 1 = .ok (.aload_n 0, 1) := by decide +kernel
theorem dX0_exchange_2 : decode cX0_exchange 2 = .ok (.iload_n 1, 1) := by decide +kernel
theorem dX0_exchange_3 : decode cX0_exchange 3 = .ok (.iload_n 2, 1) := by decide +kernel
theorem dX0_exchange_4 : decode cX0_exchange 4 = .ok (.invokevirtual 114, 3) := by decide +kernel
theorem dX0_exchange_7 : decode cX0_exchange 7 = .ok (.aload 4, 2) := by decide +kernel
theorem dX0_exchange_9 : decode cX0_exchange 9 = .ok (.aload_n 0, 1) := by decide +kernel
theorem dX0_exchange_10 : decode cX0_exchange 10 = .ok (.iload_n 2, 1) := by decide +kernel
theorem dX0_exchange_11 : decode cX0_exchange 11 = .ok (.iload_n 1, 1) := by decide +kernel
theorem dX0_exchange_12 : decode cX0_exchange 12 = .ok (.invokevirtual 114, 3) := by decide +kernel
theorem dX0_exchange_15 : decode cX0_exchange 15 = .ok (.aload_n 3, 1) := by decide +kernel
theorem dX0_exchange_16 : decode cX0_exchange 16 = .ok (.aload 4, 2) := by decide +kernel
theorem dX0_exchange_18 : decode cX0_exchange 18 = .ok (.invokevirtual 83, 3) := by decide +kernel
theorem dX0_exchange_21 : decode cX0_exchange 21 = .ok (.aload 4, 2) := by decide +kernel
theorem dX0_exchange_23 : decode cX0_exchange 23 = .ok (.aload_n 0, 1) := by decide +kernel
theorem dX0_exchange_24 : decode cX0_exchange 24 = .ok (.invokevirtual 76, 3) := by decide +kernel
theorem dX0_exchange_27 : decode cX0_exchange 27 = .ok (.aload 4, 2) := by decide +kernel
theorem dX0_exchange_29 : decode cX0_exchange 29 = .ok (.iload_n 1, 1) := by decide +kernel
theorem dX0_exchange_30 : decode cX0_exchange 30 = .ok (.invokevirtual 63, 3) := by decide +kernel
theorem dX0_exchange_33 : decode cX0_exchange 33 = .ok (.aload 4, 2) := by decide +kernel
theorem dX0_exchange_35 : decode cX0_exchange 35 = .ok (.iload_n 2, 1) := by decide +kernel
theorem dX0_exchange_36 : decode cX0_exchange 36 = .ok (.invokevirtual 63, 3) := by decide +kernel
theorem dX0_exchange_39 : decode cX0_exchange 39 = .ok (.aload_n 0, 1) := by decide +kernel
theorem dX0_exchange_40 : decode cX0_exchange 40 = .ok (.iload_n 1, 1) := by decide +kernel
theorem dX0_exchange_41 : decode cX0_exchange 41 = .ok (.invokevirtual 59, 3) := by decide +kernel
theorem dX0_exchange_44 : decode cX0_exchange 44 = .ok (.aload_n 0, 1) := by decide +kernel
theorem dX0_exchange_45 : decode cX0_exchange 45 = .ok (.iload_n 2, 1) := by decide +kernel
theorem dX0_exchange_46 : decode cX0_exchange 46 = .ok (.invokevirtual 59, 3) := by decide +kernel
theorem dX0_exchange_49 : decode cX0_exchange 49 = .ok (.aload_n 0, 1) := by decide +kernel
theorem dX0_exchange_50 : decode cX0_exchange 50 = .ok (.aload 4, 2) := by decide +kernel
theorem dX0_exchange_52 : decode cX0_exchange 52 = .ok (.invokevirtual 83, 3) := by decide +kernel
theorem dX0_exchange_55 : decode cX0_exchange 55 = .ok (.aload_n 0, 1) := by decide +kernel
theorem dX0_exchange_56 : decode cX0_exchange 56 = .ok (.aload_n 3, 1) := by decide +kernel
theorem dX0_exchange_57 : decode cX0_exchange 57 = .ok (.invokevirtual 83, 3) := by decide +kernel
theorem dX0_exchange_60 : decode cX0_exchange 60 = .ok (.return_, 1) := by decide +kernel
theorem dX1_init_0 : decode cX1_init 0 = .ok (.aload_n 0, 1) := by decide +kernel
theorem dX1_init_1 : decode cX1_init 1 = .ok (.invokespecial 1, 3) := by decide +kernel
theorem dX1_init_4 : decode cX1_init 4 = .ok (.aload_n 0, 1) := by decide +kernel
theorem dX1_init_5 : decode cX1_init 5 = .ok (.bipush 10, 2) := by decide +kernel
theorem dX1_init_7 : decode cX1_init 7 = .ok (.newarray .int, 2) := by decide +kernel
theorem dX1_init_9 : decode cX1_init 9 = .ok (.putfield 9, 3) := by decide +kernel
theorem dX1_init_12 : decode cX1_init 12 = .ok (.aload_n 0, 1) := by decide +kernel
theorem dX1_init_13 : decode cX1_init 13 = .ok (.bipush 10, 2) := by decide +kernel
theorem dX1_init_15 : decode cX1_init 15 = .ok (.anewarray 13, 3) := by decide +kernel
theorem dX1_init_18 : decode cX1_init 18 = .ok (.putfield 15, 3) := by decide +kernel
theorem dX1_init_21 : decode cX1_init 21 = .ok (.iconst 0, 1) := by decide +kernel
theorem dX1_init_22 : decode cX1_init 22 = .ok (.istore_n 1, 1) := by decide +kernel
theorem dX1_init_23 : decode cX1_init 23 = .ok (.iload_n 1, 1) := by decide +kernel
theorem dX1_init_24 : decode cX1_init 24 = .ok (.bipush 10, 2) := by decide +kernel
theorem dX1_init_26 : decode cX1_init 26 = .ok (.if_icmp .ge 22, 3) := by decide +kernel
theorem dX1_init_29 : decode cX1_init 29 = .ok (.aload_n 0, 1) := by decide +kernel
theorem dX1_init_30 : decode cX1_init 30 = .ok (.getfield 15, 3) := by decide +kernel
theorem dX1_init_33 : decode cX1_init 33 = .ok (.iload_n 1, 1) := by decide +kernel
theorem dX1_init_34 : decode cX1_init 34 = .ok (.new 13, 3) := by decide +kernel
theorem dX1_init_37 : decode cX1_init 37 = .ok (.dup, 1) := by decide +kernel
theorem dX1_init_38 : decode cX1_init 38 = .ok (.invokespecial 19, 3) := by decide +kernel
theorem dX1_init_41 : decode cX1_init 41 = .ok (.aastore, 1) := by decide +kernel
theorem dX1_init_42 : decode cX1_init 42 = .ok (.iinc 1 1, 3) := by decide +kernel
theorem dX1_init_45 : decode cX1_init 45 = .ok (.goto (-22), 3) := by decide +kernel
theorem dX1_init_48 : decode cX1_init 48 = .ok (.return_, 1) := by decide +kernel
theorem dX1_remember_0 : decode cX1_remember 0 = .ok (.aload_n 0, 1) := by decide +kernel
theorem dX1_remember_1 : decode cX1_remember 1 = .ok (.getfield 9, 3) := by decide +kernel
theorem dX1_remember_4 : decode cX1_remember 4 = .ok (.aload_n 0, 1) := by decide +kernel
theorem dX1_remember_5 : decode cX1_remember 5 = .ok (.getfield 20, 3) := by decide +kernel
theorem dX1_remember_8 : decode cX1_remember 8 = .ok (.iload_n 1, 1) := by decide +kernel
theorem dX1_remember_9 : decode cX1_remember 9 = .ok (.iastore, 1) := by decide +kernel
theorem dX1_remember_10 : decode cX1_remember 10 = .ok (.aload_n 0, 1) := by decide +kernel
theorem dX1_remember_11 : decode cX1_remember 11 = .ok (.getfield 15, 3) := by decide +kernel
theorem dX1_remember_14 : decode cX1_remember 14 = .ok (.aload_n 0, 1) := by decide +kernel
theorem dX1_remember_15 : decode cX1_remember 15 = .ok (.getfield 20, 3) := by decide +kernel
theorem dX1_remember_18 : decode cX1_remember 18 = .ok (.aaload, 1) := by decide +kernel
theorem dX1_remember_19 : decode cX1_remember 19 = .ok (.aload_n 2, 1) := by decide +kernel
theorem dX1_remember_20 : decode cX1_remember 20 = .ok (.invokevirtual 24, 3) := by decide +kernel
theorem dX1_remember_23 : decode cX1_remember 23 = .ok (.aload_n 0, 1) := by decide +kernel
theorem dX1_remember_24 : decode cX1_remember 24 = .ok (.aload_n 0, 1) := by decide +kernel
theorem dX1_remember_25 : decode cX1_remember 25 = .ok (.getfield 20, 3) := by decide +kernel
theorem dX1_remember_28 : decode cX1_remember 28 = .ok (.iconst 1, 1) := by decide +kernel
theorem dX1_remember_29 : decode cX1_remember 29 = .ok (.iadd, 1) := by decide +kernel
theorem dX1_remember_30 : decode cX1_remember 30 = .ok (.bipush 10, 2) := by decide +kernel
theorem dX1_remember_32 : decode cX1_remember 32 = .ok (.irem, 1) := by decide +kernel
theorem dX1_remember_33 : decode cX1_remember 33 = .ok (.putfield 20, 3) := by decide +kernel
theorem dX1_remember_36 : decode cX1_remember 36 = .ok (.aload_n 0, 1) := by decide +kernel
theorem dX1_remember_37 : decode cX1_remember 37 = .ok (.bipush 10, 2) := by decide +kernel
theorem dX1_remember_39 : decode cX1_remember 39 = .ok (.aload_n 0, 1) := by decide +kernel
theorem dX1_remember_40 : decode cX1_remember 40 = .ok (.getfield 28, 3) := by decide +kernel
theorem dX1_remember_43 : decode cX1_remember 43 = .ok (.iconst 1, 1) := by decide +kernel
theorem dX1_remember_44 : decode cX1_remember 44 = .ok (.iadd, 1) := by decide +kernel
theorem dX1_remember_45 : decode cX1_remember 45 = .ok (.invokestatic 31, 3) := by decide +kernel
theorem dX1_remember_48 : decode cX1_remember 48 = .ok (.putfield 28, 3) := by decide +kernel
theorem dX1_remember_51 : decode cX1_remember 51 = .ok (.return_, 1) := by decide +kernel
theorem dX1_latestSlot_0 : decode cX1_latestSlot 0 = .ok (.aload_n 0, 1) := by decide +kernel
theorem dX1_latestSlot_1 : decode cX1_latestSlot 1 = .ok (.getfield 9, 3) := by decide +kernel
theorem dX1_latestSlot_4 : decode cX1_latestSlot 4 = .ok (.aload_n 0, 1) := by decide +kernel
theorem dX1_latestSlot_5 : decode cX1_latestSlot 5 = .ok (.invokevirtual 37, 3) := by decide +kernel
theorem dX1_latestSlot_8 : decode cX1_latestSlot 8 = .ok (.iaload, 1) := by decide +kernel
theorem dX1_latestSlot_9 : decode cX1_latestSlot 9 = .ok (.ireturn, 1) := by decide +kernel
theorem dX1_restore_0 : decode cX1_restore 0 = .ok (.aload_n 0, 1) := by decide +kernel
theorem dX1_restore_1 : decode cX1_restore 1 = .ok (.aload_n 0, 1) := by decide +kernel
theorem dX1_restore_2 : decode cX1_restore 2 = .ok (.invokevirtual 37, 3) := by decide +kernel
theorem dX1_restore_5 : decode cX1_restore 5 = .ok (.putfield 20, 3) := by decide +kernel
theorem dX1_restore_8 : decode cX1_restore 8 = .ok (.aload_n 1, 1) := by decide +kernel
theorem dX1_restore_9 : decode cX1_restore 9 = .ok (.aload_n 0, 1) := by decide +kernel
theorem dX1_restore_10 : decode cX1_restore 10 = .ok (.getfield 15, 3) := by decide +kernel
theorem dX1_restore_13 : decode cX1_restore 13 = .ok (.aload_n 0, 1) := by decide +kernel
theorem dX1_restore_14 : decode cX1_restore 14 = .ok (.getfield 20, 3) := by decide +kernel
theorem dX1_restore_17 : decode cX1_restore 17 = .ok (.aaload, 1) := by decide +kernel
theorem dX1_restore_18 : decode cX1_restore 18 = .ok (.invokevirtual 24, 3) := by decide +kernel
theorem dX1_restore_21 : decode cX1_restore 21 = .ok (.aload_n 0, 1) := by decide +kernel
theorem dX1_restore_22 : decode cX1_restore 22 = .ok (.iconst 0, 1) := by decide +kernel
theorem dX1_restore_23 : decode cX1_restore 23 = .ok (.aload_n 0, 1) := by decide +kernel
theorem dX1_restore_24 : decode cX1_restore 24 = .ok (.getfield 28, 3) := by decide +kernel
theorem dX1_restore_27 : decode cX1_restore 27 = .ok (.iconst 1, 1) := by decide +kernel
theorem dX1_restore_28 : decode cX1_restore 28 = .ok (.isub, 1) := by decide +kernel
theorem dX1_restore_29 : decode cX1_restore 29 = .ok (.invokestatic 41, 3) := by decide +kernel
theorem dX1_restore_32 : decode cX1_restore 32 = .ok (.putfield 28, 3) := by decide +kernel
theorem dX1_restore_35 : decode cX1_restore 35 = .ok (.return_, 1) := by decide +kernel
theorem dX1_latest_0 : decode cX1_latest 0 = .ok (.aload_n 0, 1) := by decide +kernel
theorem dX1_latest_1 : decode cX1_latest 1 = .ok (.getfield 20, 3) := by decide +kernel
theorem dX1_latest_4 : decode cX1_latest 4 = .ok (.bipush 10, 2) := by decide +kernel
theorem dX1_latest_6 : decode cX1_latest 6 = .ok (.iadd, 1) := by decide +kernel
theorem dX1_latest_7 : decode cX1_latest 7 = .ok (.iconst 1, 1) := by decide +kernel
theorem dX1_latest_8 : decode cX1_latest 8 = .ok (.isub, 1) := by decide +kernel
theorem dX1_latest_9 : decode cX1_latest 9 = .ok (.bipush 10, 2) := by decide +kernel
theorem dX1_latest_11 : decode cX1_latest 11 = .ok (.irem, 1) := by decide +kernel
theorem dX1_latest_12 : decode cX1_latest 12 = .ok (.ireturn, 1) := by decide +kernel
theorem dX2_binomial_0 : decode cX2_binomial 0 = .ok (.iload_n 1, 1) := by decide +kernel
theorem dX2_binomial_1 : decode cX2_binomial 1 = .ok (.ifCond .lt 8, 3) := by decide +kernel
theorem dX2_binomial_4 : decode cX2_binomial 4 = .ok (.iload_n 1, 1) := by decide +kernel
theorem dX2_binomial_5 : decode cX2_binomial 5 = .ok (.iload_n 0, 1) := by decide +kernel
theorem dX2_binomial_6 : decode cX2_binomial 6 = .ok (.if_icmp .le 5, 3) := by decide +kernel
theorem dX2_binomial_9 : decode cX2_binomial 9 = .ok (.lconst 0, 1) := by decide +kernel
theorem dX2_binomial_10 : decode cX2_binomial 10 = .ok (.lreturn, 1) := by decide +kernel
theorem dX2_binomial_11 : decode cX2_binomial 11 = .ok (.lconst 1, 1) := by decide +kernel
theorem dX2_binomial_12 : decode cX2_binomial 12 = .ok (.lstore_n 2, 1) := by decide +kernel
theorem dX2_binomial_13 : decode cX2_binomial 13 = .ok (.iconst 1, 1) := by decide +kernel
theorem dX2_binomial_14 : decode cX2_binomial 14 = .ok (.istore 4, 2) := by decide +kernel
theorem dX2_binomial_16 : decode cX2_binomial 16 = .ok (.iload 4, 2) := by decide +kernel
theorem dX2_binomial_18 : decode cX2_binomial 18 = .ok (.iload_n 1, 1) := by decide +kernel
theorem dX2_binomial_19 : decode cX2_binomial 19 = .ok (.if_icmp .gt 23, 3) := by decide +kernel
theorem dX2_binomial_22 : decode cX2_binomial 22 = .ok (.lload_n 2, 1) := by decide +kernel
theorem dX2_binomial_23 : decode cX2_binomial 23 = .ok (.iload_n 0, 1) := by decide +kernel
theorem dX2_binomial_24 : decode cX2_binomial 24 = .ok (.iload_n 1, 1) := by decide +kernel
theorem dX2_binomial_25 : decode cX2_binomial 25 = .ok (.isub, 1) := by decide +kernel
theorem dX2_binomial_26 : decode cX2_binomial 26 = .ok (.iload 4, 2) := by decide +kernel
theorem dX2_binomial_28 : decode cX2_binomial 28 = .ok (.iadd, 1) := by decide +kernel
theorem dX2_binomial_29 : decode cX2_binomial 29 = .ok (.i2l, 1) := by decide +kernel
theorem dX2_binomial_30 : decode cX2_binomial 30 = .ok (.lmul, 1) := by decide +kernel
theorem dX2_binomial_31 : decode cX2_binomial 31 = .ok (.iload 4, 2) := by decide +kernel
theorem dX2_binomial_33 : decode cX2_binomial 33 = .ok (.i2l, 1) := by decide +kernel
theorem dX2_binomial_34 : decode cX2_binomial 34 = .ok (.ldiv, 1) := by decide +kernel
theorem dX2_binomial_35 : decode cX2_binomial 35 = .ok (.lstore_n 2, 1) := by decide +kernel
theorem dX2_binomial_36 : decode cX2_binomial 36 = .ok (.iinc 4 1, 3) := by decide +kernel
theorem dX2_binomial_39 : decode cX2_binomial 39 = .ok (.goto (-23), 3) := by decide +kernel
theorem dX2_binomial_42 : decode cX2_binomial 42 = .ok (.lload_n 2, 1) := by decide +kernel
theorem dX2_binomial_43 : decode cX2_binomial 43 = .ok (.lreturn, 1) := by decide +kernel
theorem dX2_top_0 : decode cX2_top 0 = .ok (.iload_n 1, 1) := by decide +kernel
theorem dX2_top_1 : decode cX2_top 1 = .ok (.iconst 1, 1) := by decide +kernel
theorem dX2_top_2 : decode cX2_top 2 = .ok (.if_icmp .gt 5, 3) := by decide +kernel
theorem dX2_top_5 : decode cX2_top 5 = .ok (.iload_n 0, 1) := by decide +kernel
theorem dX2_top_6 : decode cX2_top 6 = .ok (.ireturn, 1) := by decide +kernel
theorem dX2_top_7 : decode cX2_top 7 = .ok (.iload_n 1, 1) := by decide +kernel
theorem dX2_top_8 : decode cX2_top 8 = .ok (.istore_n 2, 1) := by decide +kernel
theorem dX2_top_9 : decode cX2_top 9 = .ok (.iload_n 2, 1) := by decide +kernel
theorem dX2_top_10 : decode cX2_top 10 = .ok (.sipush 1000, 3) := by decide +kernel
theorem dX2_top_13 : decode cX2_top 13 = .ok (.if_icmp .ge 22, 3) := by decide +kernel
theorem dX2_top_16 : decode cX2_top 16 = .ok (.iload_n 2, 1) := by decide +kernel
theorem dX2_top_17 : decode cX2_top 17 = .ok (.iconst 1, 1) := by decide +kernel
theorem dX2_top_18 : decode cX2_top 18 = .ok (.iadd, 1) := by decide +kernel
theorem dX2_top_19 : decode cX2_top 19 = .ok (.iload_n 1, 1) := by decide +kernel
theorem dX2_top_20 : decode cX2_top 20 = .ok (.invokestatic 9, 3) := by decide +kernel
theorem dX2_top_23 : decode cX2_top 23 = .ok (.iload_n 0, 1) := by decide +kernel
theorem dX2_top_24 : decode cX2_top 24 = .ok (.i2l, 1) := by decide +kernel
theorem dX2_top_25 : decode cX2_top 25 = .ok (.lcmp, 1) := by decide +kernel
theorem dX2_top_26 : decode cX2_top 26 = .ok (.ifCond .gt 9, 3) := by decide +kernel
theorem dX2_top_29 : decode cX2_top 29 = .ok (.iinc 2 1, 3) := by decide +kernel
theorem dX2_top_32 : decode cX2_top 32 = .ok (.goto (-23), 3) := by decide +kernel
theorem dX2_top_35 : decode cX2_top 35 = .ok (.iload_n 2, 1) := by decide +kernel
theorem dX2_top_36 : decode cX2_top 36 = .ok (.ireturn, 1) := by decide +kernel
theorem dX2_tops_0 : decode cX2_tops 0 = .ok (.iload_n 0, 1) := by decide +kernel
theorem dX2_tops_1 : decode cX2_tops 1 = .ok (.istore_n 3, 1) := by decide +kernel
theorem dX2_tops_2 : decode cX2_tops 2 = .ok (.iconst 0, 1) := by decide +kernel
theorem dX2_tops_3 : decode cX2_tops 3 = .ok (.istore 4, 2) := by decide +kernel
theorem dX2_tops_5 : decode cX2_tops 5 = .ok (.iconst 0, 1) := by decide +kernel
theorem dX2_tops_6 : decode cX2_tops 6 = .ok (.istore 5, 2) := by decide +kernel
theorem dX2_tops_8 : decode cX2_tops 8 = .ok (.iload 5, 2) := by decide +kernel
theorem dX2_tops_10 : decode cX2_tops 10 = .ok (.iload_n 1, 1) := by decide +kernel
theorem dX2_tops_11 : decode cX2_tops 11 = .ok (.if_icmp .ge 50, 3) := by decide +kernel
theorem dX2_tops_14 : decode cX2_tops 14 = .ok (.iload_n 3, 1) := by decide +kernel
theorem dX2_tops_15 : decode cX2_tops 15 = .ok (.ifCond .le 46, 3) := by decide +kernel
theorem dX2_tops_18 : decode cX2_tops 18 = .ok (.iload 5, 2) := by decide +kernel
theorem dX2_tops_20 : decode cX2_tops 20 = .ok (.aload_n 2, 1) := by decide +kernel
theorem dX2_tops_21 : decode cX2_tops 21 = .ok (.arraylength, 1) := by decide +kernel
theorem dX2_tops_22 : decode cX2_tops 22 = .ok (.if_icmp .ge 39, 3) := by decide +kernel
theorem dX2_tops_25 : decode cX2_tops 25 = .ok (.aload_n 2, 1) := by decide +kernel
theorem dX2_tops_26 : decode cX2_tops 26 = .ok (.iload 5, 2) := by decide +kernel
theorem dX2_tops_28 : decode cX2_tops 28 = .ok (.iload_n 3, 1) := by decide +kernel
theorem dX2_tops_29 : decode cX2_tops 29 = .ok (.iload_n 1, 1) := by decide +kernel
theorem dX2_tops_30 : decode cX2_tops 30 = .ok (.iload 5, 2) := by decide +kernel
theorem dX2_tops_32 : decode cX2_tops 32 = .ok (.isub, 1) := by decide +kernel
theorem dX2_tops_33 : decode cX2_tops 33 = .ok (.invokestatic 15, 3) := by decide +kernel
theorem dX2_tops_36 : decode cX2_tops 36 = .ok (.iastore, 1) := by decide +kernel
theorem dX2_tops_37 : decode cX2_tops 37 = .ok (.iload_n 3, 1) := by decide +kernel
theorem dX2_tops_38 : decode cX2_tops 38 = .ok (.aload_n 2, 1) := by decide +kernel
theorem dX2_tops_39 : decode cX2_tops 39 = .ok (.iload 5, 2) := by decide +kernel
theorem dX2_tops_41 : decode cX2_tops 41 = .ok (.iaload, 1) := by decide +kernel
theorem dX2_tops_42 : decode cX2_tops 42 = .ok (.iload_n 1, 1) := by decide +kernel
theorem dX2_tops_43 : decode cX2_tops 43 = .ok (.iload 5, 2) := by decide +kernel
theorem dX2_tops_45 : decode cX2_tops 45 = .ok (.isub, 1) := by decide +kernel
theorem dX2_tops_46 : decode cX2_tops 46 = .ok (.invokestatic 9, 3) := by decide +kernel
theorem dX2_tops_49 : decode cX2_tops 49 = .ok (.l2i, 1) := by decide +kernel
theorem dX2_tops_50 : decode cX2_tops 50 = .ok (.isub, 1) := by decide +kernel
theorem dX2_tops_51 : decode cX2_tops 51 = .ok (.istore_n 3, 1) := by decide +kernel
theorem dX2_tops_52 : decode cX2_tops 52 = .ok (.iinc 4 1, 3) := by decide +kernel
theorem dX2_tops_55 : decode cX2_tops 55 = .ok (.iinc 5 1, 3) := by decide +kernel
theorem dX2_tops_58 : decode cX2_tops 58 = .ok (.goto (-50), 3) := by decide +kernel
theorem dX2_tops_61 : decode cX2_tops 61 = .ok (.iload 4, 2) := by decide +kernel
theorem dX2_tops_63 : decode cX2_tops 63 = .ok (.ireturn, 1) := by decide +kernel
theorem dX2_nextOfLevel_0 : decode cX2_nextOfLevel 0 = .ok (.iload_n 0, 1) := by decide +kernel
theorem dX2_nextOfLevel_1 : decode cX2_nextOfLevel 1 = .ok (.iconst 1, 1) := by decide +kernel
theorem dX2_nextOfLevel_2 : decode cX2_nextOfLevel 2 = .ok (.iadd, 1) := by decide +kernel
theorem dX2_nextOfLevel_3 : decode cX2_nextOfLevel 3 = .ok (.istore_n 3, 1) := by decide +kernel
theorem dX2_nextOfLevel_4 : decode cX2_nextOfLevel 4 = .ok (.iload_n 3, 1) := by decide +kernel
theorem dX2_nextOfLevel_5 : decode cX2_nextOfLevel 5 = .ok (.iconst 1, 1) := by decide +kernel
theorem dX2_nextOfLevel_6 : decode cX2_nextOfLevel 6 = .ok (.iload_n 2, 1) := by decide +kernel
theorem dX2_nextOfLevel_7 : decode cX2_nextOfLevel 7 = .ok (.ishl, 1) := by decide +kernel
theorem dX2_nextOfLevel_8 : decode cX2_nextOfLevel 8 = .ok (.if_icmp .ge 19, 3) := by decide +kernel
theorem dX2_nextOfLevel_11 : decode cX2_nextOfLevel 11 = .ok (.iload_n 3, 1) := by decide +kernel
theorem dX2_nextOfLevel_12 : decode cX2_nextOfLevel 12 = .ok (.invokestatic 19, 3) := by decide +kernel
theorem dX2_nextOfLevel_15 : decode cX2_nextOfLevel 15 = .ok (.iload_n 1, 1) := by decide +kernel
theorem dX2_nextOfLevel_16 : decode cX2_nextOfLevel 16 = .ok (.if_icmp .ne 5, 3) := by decide +kernel
theorem dX2_nextOfLevel_19 : decode cX2_nextOfLevel 19 = .ok (.iload_n 3, 1) := by decide +kernel
theorem dX2_nextOfLevel_20 : decode cX2_nextOfLevel 20 = .ok (.ireturn, 1) := by decide +kernel
theorem dX2_nextOfLevel_21 : decode cX2_nextOfLevel 21 = .ok (.iinc 3 1, 3) := by decide +kernel
theorem dX2_nextOfLevel_24 : decode cX2_nextOfLevel 24 = .ok (.goto (-20), 3) := by decide +kernel
theorem dX2_nextOfLevel_27 : decode cX2_nextOfLevel 27 = .ok (.iconst (-1), 1) := by decide +kernel
theorem dX2_nextOfLevel_28 : decode cX2_nextOfLevel 28 = .ok (.ireturn, 1) := by decide +kernel
theorem dX2_commonDivisor_0 : decode cX2_commonDivisor 0 = .ok (.lload_n 0, 1) := by decide +kernel
theorem dX2_commonDivisor_1 : decode cX2_commonDivisor 1 = .ok (.lstore 4, 2) := by decide +kernel
theorem dX2_commonDivisor_3 : decode cX2_commonDivisor 3 = .ok (.lload_n 2, 1) := by decide +kernel
theorem dX2_commonDivisor_4 : decode cX2_commonDivisor 4 = .ok (.lstore 6, 2) := by decide +kernel
theorem dX2_commonDivisor_6 : decode cX2_commonDivisor 6 = .ok (.iconst 0, 1) := by decide +kernel
theorem dX2_commonDivisor_7 : decode cX2_commonDivisor 7 = .ok (.istore 8, 2) := by decide +kernel
theorem dX2_commonDivisor_9 : decode cX2_commonDivisor 9 = .ok (.iload 8, 2) := by decide +kernel
theorem dX2_commonDivisor_11 : decode cX2_commonDivisor 11 = .ok (.sipush 1000, 3) := by decide +kernel
theorem dX2_commonDivisor_14 : decode cX2_commonDivisor 14 = .ok (.if_icmp .ge 31, 3) := by decide +kernel
theorem dX2_commonDivisor_17 : decode cX2_commonDivisor 17 = .ok (.lload 6, 2) := by decide +kernel
theorem dX2_commonDivisor_19 : decode cX2_commonDivisor 19 = .ok (.lconst 0, 1) := by decide +kernel
theorem dX2_commonDivisor_20 : decode cX2_commonDivisor 20 = .ok (.lcmp, 1) := by decide +kernel
theorem dX2_commonDivisor_21 : decode cX2_commonDivisor 21 = .ok (.ifCond .eq 24, 3) := by decide +kernel
theorem dX2_commonDivisor_24 : decode cX2_commonDivisor 24 = .ok (.lload 4, 2) := by decide +kernel
theorem dX2_commonDivisor_26 : decode cX2_commonDivisor 26 = .ok (.lload 6, 2) := by decide +kernel
theorem dX2_commonDivisor_28 : decode cX2_commonDivisor 28 = .ok (.lrem, 1) := by decide +kernel
theorem dX2_commonDivisor_29 : decode cX2_commonDivisor 29 = .ok (.lstore 9, 2) := by decide +kernel
theorem dX2_commonDivisor_31 : decode cX2_commonDivisor 31 = .ok (.lload 6, 2) := by decide +kernel
theorem dX2_commonDivisor_33 : decode cX2_commonDivisor 33 = .ok (.lstore 4, 2) := by decide +kernel
theorem dX2_commonDivisor_35 : decode cX2_commonDivisor 35 = .ok (.lload 9, 2) := by decide +kernel
theorem dX2_commonDivisor_37 : decode cX2_commonDivisor 37 = .ok (.lstore 6, 2) := by decide +kernel
theorem dX2_commonDivisor_39 : decode cX2_commonDivisor 39 = .ok (.iinc 8 1, 3) := by decide +kernel
theorem dX2_commonDivisor_42 : decode cX2_commonDivisor 42 = .ok (.goto (-33), 3) := by decide +kernel
theorem dX2_commonDivisor_45 : decode cX2_commonDivisor 45 = .ok (.lload 4, 2) := by decide +kernel
theorem dX2_commonDivisor_47 : decode cX2_commonDivisor 47 = .ok (.lreturn, 1) := by decide +kernel
theorem dX2_quotient_0 : decode cX2_quotient 0 = .ok (.lload_n 2, 1) := by decide +kernel
theorem dX2_quotient_1 : decode cX2_quotient 1 = .ok (.lconst 0, 1) := by decide +kernel
theorem dX2_quotient_2 : decode cX2_quotient 2 = .ok (.lcmp, 1) := by decide +kernel
theorem dX2_quotient_3 : decode cX2_quotient 3 = .ok (.ifCond .ne 7, 3) := by decide +kernel
theorem dX2_quotient_6 : decode cX2_quotient 6 = .ok (.lload_n 0, 1) := by decide +kernel
theorem dX2_quotient_7 : decode cX2_quotient 7 = .ok (.goto 6, 3) := by decide +kernel
theorem dX2_quotient_10 : decode cX2_quotient 10 = .ok (.lload_n 0, 1) := by decide +kernel
theorem dX2_quotient_11 : decode cX2_quotient 11 = .ok (.lload_n 2, 1) := by decide +kernel
theorem dX2_quotient_12 : decode cX2_quotient 12 = .ok (.ldiv, 1) := by decide +kernel
theorem dX2_quotient_13 : decode cX2_quotient 13 = .ok (.lreturn, 1) := by decide +kernel
theorem dX3_init_0 : decode cX3_init 0 = .ok (.aload_n 0, 1) := by decide +kernel
theorem dX3_init_1 : decode cX3_init 1 = .ok (.invokespecial 3, 3) := by decide +kernel
theorem dX3_init_4 : decode cX3_init 4 = .ok (.aload_n 0, 1) := by decide +kernel
theorem dX3_init_5 : decode cX3_init 5 = .ok (.sipush 128, 3) := by decide +kernel
theorem dX3_init_8 : decode cX3_init 8 = .ok (.newarray .int, 2) := by decide +kernel
theorem dX3_init_10 : decode cX3_init 10 = .ok (.putfield 9, 3) := by decide +kernel
theorem dX3_init_13 : decode cX3_init 13 = .ok (.aload_n 0, 1) := by decide +kernel
theorem dX3_init_14 : decode cX3_init 14 = .ok (.sipush 128, 3) := by decide +kernel
theorem dX3_init_17 : decode cX3_init 17 = .ok (.newarray .int, 2) := by decide +kernel
theorem dX3_init_19 : decode cX3_init 19 = .ok (.putfield 15, 3) := by decide +kernel
theorem dX3_init_22 : decode cX3_init 22 = .ok (.aload_n 0, 1) := by decide +kernel
theorem dX3_init_23 : decode cX3_init 23 = .ok (.sipush 128, 3) := by decide +kernel
theorem dX3_init_26 : decode cX3_init 26 = .ok (.newarray .long, 2) := by decide +kernel
theorem dX3_init_28 : decode cX3_init 28 = .ok (.putfield 18, 3) := by decide +kernel
theorem dX3_init_31 : decode cX3_init 31 = .ok (.aload_n 0, 1) := by decide +kernel
theorem dX3_init_32 : decode cX3_init 32 = .ok (.sipush 128, 3) := by decide +kernel
theorem dX3_init_35 : decode cX3_init 35 = .ok (.newarray .long, 2) := by decide +kernel
theorem dX3_init_37 : decode cX3_init 37 = .ok (.putfield 22, 3) := by decide +kernel
theorem dX3_init_40 : decode cX3_init 40 = .ok (.aload_n 0, 1) := by decide +kernel
theorem dX3_init_41 : decode cX3_init 41 = .ok (.bipush 7, 2) := by decide +kernel
theorem dX3_init_43 : decode cX3_init 43 = .ok (.anewarray 25, 3) := by decide +kernel
theorem dX3_init_46 : decode cX3_init 46 = .ok (.putfield 27, 3) := by decide +kernel
theorem dX3_init_49 : decode cX3_init 49 = .ok (.aload_n 0, 1) := by decide +kernel
theorem dX3_init_50 : decode cX3_init 50 = .ok (.new 25, 3) := by decide +kernel
theorem dX3_init_53 : decode cX3_init 53 = .ok (.dup, 1) := by decide +kernel
theorem dX3_init_54 : decode cX3_init 54 = .ok (.invokespecial 31, 3) := by decide +kernel
theorem dX3_init_57 : decode cX3_init 57 = .ok (.putfield 32, 3) := by decide +kernel
theorem dX3_init_60 : decode cX3_init 60 = .ok (.iconst 0, 1) := by decide +kernel
theorem dX3_init_61 : decode cX3_init 61 = .ok (.istore_n 1, 1) := by decide +kernel
theorem dX3_init_62 : decode cX3_init 62 = .ok (.iload_n 1, 1) := by decide +kernel
theorem dX3_init_63 : decode cX3_init 63 = .ok (.bipush 7, 2) := by decide +kernel
theorem dX3_init_65 : decode cX3_init 65 = .ok (.if_icmp .ge 22, 3) := by decide +kernel
theorem dX3_init_68 : decode cX3_init 68 = .ok (.aload_n 0, 1) := by decide +kernel
theorem dX3_init_69 : decode cX3_init 69 = .ok (.getfield 27, 3) := by decide +kernel
theorem dX3_init_72 : decode cX3_init 72 = .ok (.iload_n 1, 1) := by decide +kernel
theorem dX3_init_73 : decode cX3_init 73 = .ok (.new 25, 3) := by decide +kernel
theorem dX3_init_76 : decode cX3_init 76 = .ok (.dup, 1) := by decide +kernel
theorem dX3_init_77 : decode cX3_init 77 = .ok (.invokespecial 31, 3) := by decide +kernel
theorem dX3_init_80 : decode cX3_init 80 = .ok (.aastore, 1) := by decide +kernel
theorem dX3_init_81 : decode cX3_init 81 = .ok (.iinc 1 1, 3) := by decide +kernel
theorem dX3_init_84 : decode cX3_init 84 = .ok (.goto (-22), 3) := by decide +kernel
theorem dX3_init_87 : decode cX3_init 87 = .ok (.return_, 1) := by decide +kernel
theorem dX3_partOf_0 : decode cX3_partOf 0 = .ok (.iload_n 1, 1) := by decide +kernel
theorem dX3_partOf_1 : decode cX3_partOf 1 = .ok (.ifCond .lt 20, 3) := by decide +kernel
theorem dX3_partOf_4 : decode cX3_partOf 4 = .ok (.iload_n 1, 1) := by decide +kernel
theorem dX3_partOf_5 : decode cX3_partOf 5 = .ok (.aload_n 0, 1) := by decide +kernel
theorem dX3_partOf_6 : decode cX3_partOf 6 = .ok (.getfield 36, 3) := by decide +kernel
theorem dX3_partOf_9 : decode cX3_partOf 9 = .ok (.if_icmp .ge 12, 3) := by decide +kernel
theorem dX3_partOf_12 : decode cX3_partOf 12 = .ok (.aload_n 0, 1) := by decide +kernel
theorem dX3_partOf_13 : decode cX3_partOf 13 = .ok (.getfield 15, 3) := by decide +kernel
theorem dX3_partOf_16 : decode cX3_partOf 16 = .ok (.iload_n 1, 1) := by decide +kernel
theorem dX3_partOf_17 : decode cX3_partOf 17 = .ok (.iaload, 1) := by decide +kernel
theorem dX3_partOf_18 : decode cX3_partOf 18 = .ok (.goto 4, 3) := by decide +kernel
theorem dX3_partOf_21 : decode cX3_partOf 21 = .ok (.iconst (-1), 1) := by decide +kernel
theorem dX3_partOf_22 : decode cX3_partOf 22 = .ok (.ireturn, 1) := by decide +kernel
theorem dX3_run_0 : decode cX3_run 0 = .ok (.aload_n 0, 1) := by decide +kernel
theorem dX3_run_1 : decode cX3_run 1 = .ok (.aload_n 1, 1) := by decide +kernel
theorem dX3_run_2 : decode cX3_run 2 = .ok (.invokevirtual 40, 3) := by decide +kernel
theorem dX3_run_5 : decode cX3_run 5 = .ok (.iconst 0, 1) := by decide +kernel
theorem dX3_run_6 : decode cX3_run 6 = .ok (.istore 4, 2) := by decide +kernel
theorem dX3_run_8 : decode cX3_run 8 = .ok (.iconst 0, 1) := by decide +kernel
theorem dX3_run_9 : decode cX3_run 9 = .ok (.istore 5, 2) := by decide +kernel
theorem dX3_run_11 : decode cX3_run 11 = .ok (.iconst 0, 1) := by decide +kernel
theorem dX3_run_12 : decode cX3_run 12 = .ok (.istore 6, 2) := by decide +kernel
theorem dX3_run_14 : decode cX3_run 14 = .ok (.iload 6, 2) := by decide +kernel
theorem dX3_run_16 : decode cX3_run 16 = .ok (.iconst 2, 1) := by decide +kernel
theorem dX3_run_17 : decode cX3_run 17 = .ok (.iload_n 3, 1) := by decide +kernel
theorem dX3_run_18 : decode cX3_run 18 = .ok (.imul, 1) := by decide +kernel
theorem dX3_run_19 : decode cX3_run 19 = .ok (.iconst 2, 1) := by decide +kernel
theorem dX3_run_20 : decode cX3_run 20 = .ok (.iadd, 1) := by decide +kernel
theorem dX3_run_21 : decode cX3_run 21 = .ok (.if_icmp .gt 100, 3) := by decide +kernel
theorem dX3_run_24 : decode cX3_run 24 = .ok (.iload 5, 2) := by decide +kernel
theorem dX3_run_26 : decode cX3_run 26 = .ok (.aload_n 0, 1) := by decide +kernel
theorem dX3_run_27 : decode cX3_run 27 = .ok (.getfield 36, 3) := by decide +kernel
theorem dX3_run_30 : decode cX3_run 30 = .ok (.if_icmp .ge 91, 3) := by decide +kernel
theorem dX3_run_33 : decode cX3_run 33 = .ok (.aload_n 0, 1) := by decide +kernel
theorem dX3_run_34 : decode cX3_run 34 = .ok (.iload 5, 2) := by decide +kernel
theorem dX3_run_36 : decode cX3_run 36 = .ok (.iload_n 2, 1) := by decide +kernel
theorem dX3_run_37 : decode cX3_run 37 = .ok (.invokevirtual 44, 3) := by decide +kernel
theorem dX3_run_40 : decode cX3_run 40 = .ok (.istore 7, 2) := by decide +kernel
theorem dX3_run_42 : decode cX3_run 42 = .ok (.iload 7, 2) := by decide +kernel
theorem dX3_run_44 : decode cX3_run 44 = .ok (.iconst (-1), 1) := by decide +kernel
theorem dX3_run_45 : decode cX3_run 45 = .ok (.if_icmp .ne 30, 3) := by decide +kernel
theorem dX3_run_48 : decode cX3_run 48 = .ok (.aload_n 0, 1) := by decide +kernel
theorem dX3_run_49 : decode cX3_run 49 = .ok (.getfield 15, 3) := by decide +kernel
theorem dX3_run_52 : decode cX3_run 52 = .ok (.iload 5, 2) := by decide +kernel
theorem dX3_run_54 : decode cX3_run 54 = .ok (.iconst (-1), 1) := by decide +kernel
theorem dX3_run_55 : decode cX3_run 55 = .ok (.iastore, 1) := by decide +kernel
theorem dX3_run_56 : decode cX3_run 56 = .ok (.iinc 5 (-1), 3) := by decide +kernel
theorem dX3_run_59 : decode cX3_run 59 = .ok (.iload 5, 2) := by decide +kernel
theorem dX3_run_61 : decode cX3_run 61 = .ok (.ifCond .ge 5, 3) := by decide +kernel
theorem dX3_run_64 : decode cX3_run 64 = .ok (.iconst 1, 1) := by decide +kernel
theorem dX3_run_65 : decode cX3_run 65 = .ok (.ireturn, 1) := by decide +kernel
theorem dX3_run_66 : decode cX3_run 66 = .ok (.aload_n 0, 1) := by decide +kernel
theorem dX3_run_67 : decode cX3_run 67 = .ok (.iload 5, 2) := by decide +kernel
theorem dX3_run_69 : decode cX3_run 69 = .ok (.invokevirtual 48, 3) := by decide +kernel
theorem dX3_run_72 : decode cX3_run 72 = .ok (.goto 43, 3) := by decide +kernel
theorem dX3_run_75 : decode cX3_run 75 = .ok (.iinc 4 1, 3) := by decide +kernel
theorem dX3_run_78 : decode cX3_run 78 = .ok (.iload 4, 2) := by decide +kernel
theorem dX3_run_80 : decode cX3_run 80 = .ok (.iload_n 3, 1) := by decide +kernel
theorem dX3_run_81 : decode cX3_run 81 = .ok (.if_icmp .le 5, 3) := by decide +kernel
theorem dX3_run_84 : decode cX3_run 84 = .ok (.iconst 2, 1) := by decide +kernel
theorem dX3_run_85 : decode cX3_run 85 = .ok (.ireturn, 1) := by decide +kernel
theorem dX3_run_86 : decode cX3_run 86 = .ok (.aload_n 0, 1) := by decide +kernel
theorem dX3_run_87 : decode cX3_run 87 = .ok (.getfield 15, 3) := by decide +kernel
theorem dX3_run_90 : decode cX3_run 90 = .ok (.iload 5, 2) := by decide +kernel
theorem dX3_run_92 : decode cX3_run 92 = .ok (.iload 7, 2) := by decide +kernel
theorem dX3_run_94 : decode cX3_run 94 = .ok (.iastore, 1) := by decide +kernel
theorem dX3_run_95 : decode cX3_run 95 = .ok (.aload_n 0, 1) := by decide +kernel
theorem dX3_run_96 : decode cX3_run 96 = .ok (.getfield 27, 3) := by decide +kernel
theorem dX3_run_99 : decode cX3_run 99 = .ok (.iload 7, 2) := by decide +kernel
theorem dX3_run_101 : decode cX3_run 101 = .ok (.aaload, 1) := by decide +kernel
theorem dX3_run_102 : decode cX3_run 102 = .ok (.aload_n 0, 1) := by decide +kernel
theorem dX3_run_103 : decode cX3_run 103 = .ok (.getfield 9, 3) := by decide +kernel
theorem dX3_run_106 : decode cX3_run 106 = .ok (.iload 5, 2) := by decide +kernel
theorem dX3_run_108 : decode cX3_run 108 = .ok (.iaload, 1) := by decide +kernel
theorem dX3_run_109 : decode cX3_run 109 = .ok (.invokevirtual 52, 3) := by decide +kernel
theorem dX3_run_112 : decode cX3_run 112 = .ok (.iinc 5 1, 3) := by decide +kernel
theorem dX3_run_115 : decode cX3_run 115 = .ok (.iinc 6 1, 3) := by decide +kernel
theorem dX3_run_118 : decode cX3_run 118 = .ok (.goto (-104), 3) := by decide +kernel
theorem dX3_run_121 : decode cX3_run 121 = .ok (.iconst 0, 1) := by decide +kernel
theorem dX3_run_122 : decode cX3_run 122 = .ok (.ireturn, 1) := by decide +kernel
theorem dX3_takeOut_0 : decode cX3_takeOut 0 = .ok (.aload_n 0, 1) := by decide +kernel
theorem dX3_takeOut_1 : decode cX3_takeOut 1 = .ok (.getfield 15, 3) := by decide +kernel
theorem dX3_takeOut_4 : decode cX3_takeOut 4 = .ok (.iload_n 1, 1) := by decide +kernel
theorem dX3_takeOut_5 : decode cX3_takeOut 5 = .ok (.iaload, 1) := by decide +kernel
theorem dX3_takeOut_6 : decode cX3_takeOut 6 = .ok (.istore_n 2, 1) := by decide +kernel
theorem dX3_takeOut_7 : decode cX3_takeOut 7 = .ok (.iload_n 2, 1) := by decide +kernel
theorem dX3_takeOut_8 : decode cX3_takeOut 8 = .ok (.ifCond .lt 24, 3) := by decide +kernel
theorem dX3_takeOut_11 : decode cX3_takeOut 11 = .ok (.iload_n 2, 1) := by decide +kernel
theorem dX3_takeOut_12 : decode cX3_takeOut 12 = .ok (.bipush 7, 2) := by decide +kernel
theorem dX3_takeOut_14 : decode cX3_takeOut 14 = .ok (.if_icmp .ge 18, 3) := by decide +kernel
theorem dX3_takeOut_17 : decode cX3_takeOut 17 = .ok (.aload_n 0, 1) := by decide +kernel
theorem dX3_takeOut_18 : decode cX3_takeOut 18 = .ok (.getfield 27, 3) := by decide +kernel
theorem dX3_takeOut_21 : decode cX3_takeOut 21 = .ok (.iload_n 2, 1) := by decide +kernel
theorem dX3_takeOut_22 : decode cX3_takeOut 22 = .ok (.aaload, 1) := by decide +kernel
theorem dX3_takeOut_23 : decode cX3_takeOut 23 = .ok (.aload_n 0, 1) := by decide +kernel
theorem dX3_takeOut_24 : decode cX3_takeOut 24 = .ok (.getfield 9, 3) := by decide +kernel
theorem dX3_takeOut_27 : decode cX3_takeOut 27 = .ok (.iload_n 1, 1) := by decide +kernel
theorem dX3_takeOut_28 : decode cX3_takeOut 28 = .ok (.iaload, 1) := by decide +kernel
theorem dX3_takeOut_29 : decode cX3_takeOut 29 = .ok (.invokevirtual 55, 3) := by decide +kernel
theorem dX3_takeOut_32 : decode cX3_takeOut 32 = .ok (.return_, 1) := by decide +kernel
theorem dX3_nextPart_0 : decode cX3_nextPart 0 = .ok (.aload_n 0, 1) := by decide +kernel
theorem dX3_nextPart_1 : decode cX3_nextPart 1 = .ok (.getfield 9, 3) := by decide +kernel
theorem dX3_nextPart_4 : decode cX3_nextPart 4 = .ok (.iload_n 1, 1) := by decide +kernel
theorem dX3_nextPart_5 : decode cX3_nextPart 5 = .ok (.iaload, 1) := by decide +kernel
theorem dX3_nextPart_6 : decode cX3_nextPart 6 = .ok (.istore_n 3, 1) := by decide +kernel
theorem dX3_nextPart_7 : decode cX3_nextPart 7 = .ok (.aload_n 0, 1) := by decide +kernel
theorem dX3_nextPart_8 : decode cX3_nextPart 8 = .ok (.getfield 15, 3) := by decide +kernel
theorem dX3_nextPart_11 : decode cX3_nextPart 11 = .ok (.iload_n 1, 1) := by decide +kernel
theorem dX3_nextPart_12 : decode cX3_nextPart 12 = .ok (.iaload, 1) := by decide +kernel
theorem dX3_nextPart_13 : decode cX3_nextPart 13 = .ok (.iconst 1, 1) := by decide +kernel
theorem dX3_nextPart_14 : decode cX3_nextPart 14 = .ok (.iadd, 1) := by decide +kernel
theorem dX3_nextPart_15 : decode cX3_nextPart 15 = .ok (.istore 4, 2) := by decide +kernel
theorem dX3_nextPart_17 : decode cX3_nextPart 17 = .ok (.iload 4, 2) := by decide +kernel
theorem dX3_nextPart_19 : decode cX3_nextPart 19 = .ok (.iload_n 2, 1) := by decide +kernel
theorem dX3_nextPart_20 : decode cX3_nextPart 20 = .ok (.if_icmp .ge 74, 3) := by decide +kernel
theorem dX3_nextPart_23 : decode cX3_nextPart 23 = .ok (.iload 4, 2) := by decide +kernel
theorem dX3_nextPart_25 : decode cX3_nextPart 25 = .ok (.ifCond .le 20, 3) := by decide +kernel
theorem dX3_nextPart_28 : decode cX3_nextPart 28 = .ok (.aload_n 0, 1) := by decide +kernel
theorem dX3_nextPart_29 : decode cX3_nextPart 29 = .ok (.getfield 27, 3) := by decide +kernel
theorem dX3_nextPart_32 : decode cX3_nextPart 32 = .ok (.iload 4, 2) := by decide +kernel
theorem dX3_nextPart_34 : decode cX3_nextPart 34 = .ok (.iconst 1, 1) := by decide +kernel
theorem dX3_nextPart_35 : decode cX3_nextPart 35 = .ok (.isub, 1) := by decide +kernel
theorem dX3_nextPart_36 : decode cX3_nextPart 36 = .ok (.aaload, 1) := by decide +kernel
theorem dX3_nextPart_37 : decode cX3_nextPart 37 = .ok (.invokevirtual 58, 3) := by decide +kernel
theorem dX3_nextPart_40 : decode cX3_nextPart 40 = .ok (.ifCond .eq 5, 3) := by decide +kernel
theorem dX3_nextPart_43 : decode cX3_nextPart 43 = .ok (.iconst (-1), 1) := by decide +kernel
theorem dX3_nextPart_44 : decode cX3_nextPart 44 = .ok (.ireturn, 1) := by decide +kernel
theorem dX3_nextPart_45 : decode cX3_nextPart 45 = .ok (.aload_n 0, 1) := by decide +kernel
theorem dX3_nextPart_46 : decode cX3_nextPart 46 = .ok (.getfield 27, 3) := by decide +kernel
theorem dX3_nextPart_49 : decode cX3_nextPart 49 = .ok (.iload 4, 2) := by decide +kernel
theorem dX3_nextPart_51 : decode cX3_nextPart 51 = .ok (.aaload, 1) := by decide +kernel
theorem dX3_nextPart_52 : decode cX3_nextPart 52 = .ok (.getfield 62, 3) := by decide +kernel
theorem dX3_nextPart_55 : decode cX3_nextPart 55 = .ok (.aload_n 0, 1) := by decide +kernel
theorem dX3_nextPart_56 : decode cX3_nextPart 56 = .ok (.getfield 18, 3) := by decide +kernel
theorem dX3_nextPart_59 : decode cX3_nextPart 59 = .ok (.iload_n 3, 1) := by decide +kernel
theorem dX3_nextPart_60 : decode cX3_nextPart 60 = .ok (.laload, 1) := by decide +kernel
theorem dX3_nextPart_61 : decode cX3_nextPart 61 = .ok (.land, 1) := by decide +kernel
theorem dX3_nextPart_62 : decode cX3_nextPart 62 = .ok (.aload_n 0, 1) := by decide +kernel
theorem dX3_nextPart_63 : decode cX3_nextPart 63 = .ok (.getfield 27, 3) := by decide +kernel
theorem dX3_nextPart_66 : decode cX3_nextPart 66 = .ok (.iload 4, 2) := by decide +kernel
theorem dX3_nextPart_68 : decode cX3_nextPart 68 = .ok (.aaload, 1) := by decide +kernel
theorem dX3_nextPart_69 : decode cX3_nextPart 69 = .ok (.getfield 66, 3) := by decide +kernel
theorem dX3_nextPart_72 : decode cX3_nextPart 72 = .ok (.aload_n 0, 1) := by decide +kernel
theorem dX3_nextPart_73 : decode cX3_nextPart 73 = .ok (.getfield 22, 3) := by decide +kernel
theorem dX3_nextPart_76 : decode cX3_nextPart 76 = .ok (.iload_n 3, 1) := by decide +kernel
theorem dX3_nextPart_77 : decode cX3_nextPart 77 = .ok (.laload, 1) := by decide +kernel
theorem dX3_nextPart_78 : decode cX3_nextPart 78 = .ok (.land, 1) := by decide +kernel
theorem dX3_nextPart_79 : decode cX3_nextPart 79 = .ok (.lor, 1) := by decide +kernel
theorem dX3_nextPart_80 : decode cX3_nextPart 80 = .ok (.lconst 0, 1) := by decide +kernel
theorem dX3_nextPart_81 : decode cX3_nextPart 81 = .ok (.lcmp, 1) := by decide +kernel
theorem dX3_nextPart_82 : decode cX3_nextPart 82 = .ok (.ifCond .ne 6, 3) := by decide +kernel
theorem dX3_nextPart_85 : decode cX3_nextPart 85 = .ok (.iload 4, 2) := by decide +kernel
theorem dX3_nextPart_87 : decode cX3_nextPart 87 = .ok (.ireturn, 1) := by decide +kernel
theorem dX3_nextPart_88 : decode cX3_nextPart 88 = .ok (.iinc 4 1, 3) := by decide +kernel
theorem dX3_nextPart_91 : decode cX3_nextPart 91 = .ok (.goto (-74), 3) := by decide +kernel
theorem dX3_nextPart_94 : decode cX3_nextPart 94 = .ok (.iconst (-1), 1) := by decide +kernel
theorem dX3_nextPart_95 : decode cX3_nextPart 95 = .ok (.ireturn, 1) := by decide +kernel
theorem dX3_gather_0 : decode cX3_gather 0 = .ok (.aload_n 0, 1) := by decide +kernel
theorem dX3_gather_1 : decode cX3_gather 1 = .ok (.iconst 0, 1) := by decide +kernel
theorem dX3_gather_2 : decode cX3_gather 2 = .ok (.putfield 36, 3) := by decide +kernel
theorem dX3_gather_5 : decode cX3_gather 5 = .ok (.iconst 0, 1) := by decide +kernel
theorem dX3_gather_6 : decode cX3_gather 6 = .ok (.istore_n 2, 1) := by decide +kernel
theorem dX3_gather_7 : decode cX3_gather 7 = .ok (.iload_n 2, 1) := by decide +kernel
theorem dX3_gather_8 : decode cX3_gather 8 = .ok (.aload_n 1, 1) := by decide +kernel
theorem dX3_gather_9 : decode cX3_gather 9 = .ok (.invokevirtual 69, 3) := by decide +kernel
theorem dX3_gather_12 : decode cX3_gather 12 = .ok (.if_icmp .ge 90, 3) := by decide +kernel
theorem dX3_gather_15 : decode cX3_gather 15 = .ok (.aload_n 1, 1) := by decide +kernel
theorem dX3_gather_16 : decode cX3_gather 16 = .ok (.iload_n 2, 1) := by decide +kernel
theorem dX3_gather_17 : decode cX3_gather 17 = .ok (.invokevirtual 73, 3) := by decide +kernel
theorem dX3_gather_20 : decode cX3_gather 20 = .ok (.ifCond .eq 76, 3) := by decide +kernel
theorem dX3_gather_23 : decode cX3_gather 23 = .ok (.aload_n 0, 1) := by decide +kernel
theorem dX3_gather_24 : decode cX3_gather 24 = .ok (.getfield 32, 3) := by decide +kernel
theorem dX3_gather_27 : decode cX3_gather 27 = .ok (.aload_n 1, 1) := by decide +kernel
theorem dX3_gather_28 : decode cX3_gather 28 = .ok (.invokevirtual 77, 3) := by decide +kernel
theorem dX3_gather_31 : decode cX3_gather 31 = .ok (.aload_n 0, 1) := by decide +kernel
theorem dX3_gather_32 : decode cX3_gather 32 = .ok (.getfield 32, 3) := by decide +kernel
theorem dX3_gather_35 : decode cX3_gather 35 = .ok (.iload_n 2, 1) := by decide +kernel
theorem dX3_gather_36 : decode cX3_gather 36 = .ok (.iconst 0, 1) := by decide +kernel
theorem dX3_gather_37 : decode cX3_gather 37 = .ok (.invokevirtual 80, 3) := by decide +kernel
theorem dX3_gather_40 : decode cX3_gather 40 = .ok (.aload_n 0, 1) := by decide +kernel
theorem dX3_gather_41 : decode cX3_gather 41 = .ok (.getfield 18, 3) := by decide +kernel
theorem dX3_gather_44 : decode cX3_gather 44 = .ok (.iload_n 2, 1) := by decide +kernel
theorem dX3_gather_45 : decode cX3_gather 45 = .ok (.aload_n 0, 1) := by decide +kernel
theorem dX3_gather_46 : decode cX3_gather 46 = .ok (.getfield 32, 3) := by decide +kernel
theorem dX3_gather_49 : decode cX3_gather 49 = .ok (.getfield 62, 3) := by decide +kernel
theorem dX3_gather_52 : decode cX3_gather 52 = .ok (.lastore, 1) := by decide +kernel
theorem dX3_gather_53 : decode cX3_gather 53 = .ok (.aload_n 0, 1) := by decide +kernel
theorem dX3_gather_54 : decode cX3_gather 54 = .ok (.getfield 22, 3) := by decide +kernel
theorem dX3_gather_57 : decode cX3_gather 57 = .ok (.iload_n 2, 1) := by decide +kernel
theorem dX3_gather_58 : decode cX3_gather 58 = .ok (.aload_n 0, 1) := by decide +kernel
theorem dX3_gather_59 : decode cX3_gather 59 = .ok (.getfield 32, 3) := by decide +kernel
theorem dX3_gather_62 : decode cX3_gather 62 = .ok (.getfield 66, 3) := by decide +kernel
theorem dX3_gather_65 : decode cX3_gather 65 = .ok (.lastore, 1) := by decide +kernel
theorem dX3_gather_66 : decode cX3_gather 66 = .ok (.aload_n 0, 1) := by decide +kernel
theorem dX3_gather_67 : decode cX3_gather 67 = .ok (.getfield 9, 3) := by decide +kernel
theorem dX3_gather_70 : decode cX3_gather 70 = .ok (.aload_n 0, 1) := by decide +kernel
theorem dX3_gather_71 : decode cX3_gather 71 = .ok (.getfield 36, 3) := by decide +kernel
theorem dX3_gather_74 : decode cX3_gather 74 = .ok (.iload_n 2, 1) := by decide +kernel
theorem dX3_gather_75 : decode cX3_gather 75 = .ok (.iastore, 1) := by decide +kernel
theorem dX3_gather_76 : decode cX3_gather 76 = .ok (.aload_n 0, 1) := by decide +kernel
theorem dX3_gather_77 : decode cX3_gather 77 = .ok (.getfield 15, 3) := by decide +kernel
theorem dX3_gather_80 : decode cX3_gather 80 = .ok (.aload_n 0, 1) := by decide +kernel
theorem dX3_gather_81 : decode cX3_gather 81 = .ok (.getfield 36, 3) := by decide +kernel
theorem dX3_gather_84 : decode cX3_gather 84 = .ok (.iconst (-1), 1) := by decide +kernel
theorem dX3_gather_85 : decode cX3_gather 85 = .ok (.iastore, 1) := by decide +kernel
theorem dX3_gather_86 : decode cX3_gather 86 = .ok (.aload_n 0, 1) := by decide +kernel
theorem dX3_gather_87 : decode cX3_gather 87 = .ok (.dup, 1) := by decide +kernel
theorem dX3_gather_88 : decode cX3_gather 88 = .ok (.getfield 36, 3) := by decide +kernel
theorem dX3_gather_91 : decode cX3_gather 91 = .ok (.iconst 1, 1) := by decide +kernel
theorem dX3_gather_92 : decode cX3_gather 92 = .ok (.iadd, 1) := by decide +kernel
theorem dX3_gather_93 : decode cX3_gather 93 = .ok (.putfield 36, 3) := by decide +kernel
theorem dX3_gather_96 : decode cX3_gather 96 = .ok (.iinc 2 1, 3) := by decide +kernel
theorem dX3_gather_99 : decode cX3_gather 99 = .ok (.goto (-92), 3) := by decide +kernel
theorem dX3_gather_102 : decode cX3_gather 102 = .ok (.iconst 0, 1) := by decide +kernel
theorem dX3_gather_103 : decode cX3_gather 103 = .ok (.istore_n 2, 1) := by decide +kernel
theorem dX3_gather_104 : decode cX3_gather 104 = .ok (.iload_n 2, 1) := by decide +kernel
theorem dX3_gather_105 : decode cX3_gather 105 = .ok (.bipush 7, 2) := by decide +kernel
theorem dX3_gather_107 : decode cX3_gather 107 = .ok (.if_icmp .ge 22, 3) := by decide +kernel
theorem dX3_gather_110 : decode cX3_gather 110 = .ok (.aload_n 0, 1) := by decide +kernel
theorem dX3_gather_111 : decode cX3_gather 111 = .ok (.getfield 27, 3) := by decide +kernel
theorem dX3_gather_114 : decode cX3_gather 114 = .ok (.iload_n 2, 1) := by decide +kernel
theorem dX3_gather_115 : decode cX3_gather 115 = .ok (.aaload, 1) := by decide +kernel
theorem dX3_gather_116 : decode cX3_gather 116 = .ok (.aload_n 1, 1) := by decide +kernel
theorem dX3_gather_117 : decode cX3_gather 117 = .ok (.getfield 84, 3) := by decide +kernel
theorem dX3_gather_120 : decode cX3_gather 120 = .ok (.invokevirtual 87, 3) := by decide +kernel
theorem dX3_gather_123 : decode cX3_gather 123 = .ok (.iinc 2 1, 3) := by decide +kernel
theorem dX3_gather_126 : decode cX3_gather 126 = .ok (.goto (-22), 3) := by decide +kernel
theorem dX3_gather_129 : decode cX3_gather 129 = .ok (.return_, 1) := by decide +kernel
theorem dX4_isRound_0 : decode cX4_isRound 0 = .ok (.iload_n 0, 1) := by decide +kernel
theorem dX4_isRound_1 : decode cX4_isRound 1 = .ok (.iconst 1, 1) := by decide +kernel
theorem dX4_isRound_2 : decode cX4_isRound 2 = .ok (.if_icmp .lt 30, 3) := by decide +kernel
theorem dX4_isRound_5 : decode cX4_isRound 5 = .ok (.iload_n 0, 1) := by decide +kernel
theorem dX4_isRound_6 : decode cX4_isRound 6 = .ok (.getstatic 9, 3) := by decide +kernel
theorem dX4_isRound_9 : decode cX4_isRound 9 = .ok (.arraylength, 1) := by decide +kernel
theorem dX4_isRound_10 : decode cX4_isRound 10 = .ok (.if_icmp .ge 22, 3) := by decide +kernel
theorem dX4_isRound_13 : decode cX4_isRound 13 = .ok (.iload_n 1, 1) := by decide +kernel
theorem dX4_isRound_14 : decode cX4_isRound 14 = .ok (.ifCond .lt 18, 3) := by decide +kernel
theorem dX4_isRound_17 : decode cX4_isRound 17 = .ok (.iload_n 1, 1) := by decide +kernel
theorem dX4_isRound_18 : decode cX4_isRound 18 = .ok (.getstatic 9, 3) := by decide +kernel
theorem dX4_isRound_21 : decode cX4_isRound 21 = .ok (.iload_n 0, 1) := by decide +kernel
theorem dX4_isRound_22 : decode cX4_isRound 22 = .ok (.iconst 1, 1) := by decide +kernel
theorem dX4_isRound_23 : decode cX4_isRound 23 = .ok (.isub, 1) := by decide +kernel
theorem dX4_isRound_24 : decode cX4_isRound 24 = .ok (.iaload, 1) := by decide +kernel
theorem dX4_isRound_25 : decode cX4_isRound 25 = .ok (.if_icmp .ge 7, 3) := by decide +kernel
theorem dX4_isRound_28 : decode cX4_isRound 28 = .ok (.iconst 1, 1) := by decide +kernel
theorem dX4_isRound_29 : decode cX4_isRound 29 = .ok (.goto 4, 3) := by decide +kernel
theorem dX4_isRound_32 : decode cX4_isRound 32 = .ok (.iconst 0, 1) := by decide +kernel
theorem dX4_isRound_33 : decode cX4_isRound 33 = .ok (.ireturn, 1) := by decide +kernel
theorem dX4_lay_0 : decode cX4_lay 0 = .ok (.aload_n 2, 1) := by decide +kernel
theorem dX4_lay_1 : decode cX4_lay 1 = .ok (.iconst 0, 1) := by decide +kernel
theorem dX4_lay_2 : decode cX4_lay 2 = .ok (.iload_n 0, 1) := by decide +kernel
theorem dX4_lay_3 : decode cX4_lay 3 = .ok (.iconst 1, 1) := by decide +kernel
theorem dX4_lay_4 : decode cX4_lay 4 = .ok (.isub, 1) := by decide +kernel
theorem dX4_lay_5 : decode cX4_lay 5 = .ok (.iastore, 1) := by decide +kernel
theorem dX4_lay_6 : decode cX4_lay 6 = .ok (.iconst 1, 1) := by decide +kernel
theorem dX4_lay_7 : decode cX4_lay 7 = .ok (.iload_n 0, 1) := by decide +kernel
theorem dX4_lay_8 : decode cX4_lay 8 = .ok (.iconst 1, 1) := by decide +kernel
theorem dX4_lay_9 : decode cX4_lay 9 = .ok (.isub, 1) := by decide +kernel
theorem dX4_lay_10 : decode cX4_lay 10 = .ok (.ishl, 1) := by decide +kernel
theorem dX4_lay_11 : decode cX4_lay 11 = .ok (.iconst 1, 1) := by decide +kernel
theorem dX4_lay_12 : decode cX4_lay 12 = .ok (.isub, 1) := by decide +kernel
theorem dX4_lay_13 : decode cX4_lay 13 = .ok (.istore_n 3, 1) := by decide +kernel
theorem dX4_lay_14 : decode cX4_lay 14 = .ok (.iload_n 1, 1) := by decide +kernel
theorem dX4_lay_15 : decode cX4_lay 15 = .ok (.istore 4, 2) := by decide +kernel
theorem dX4_lay_17 : decode cX4_lay 17 = .ok (.iconst 1, 1) := by decide +kernel
theorem dX4_lay_18 : decode cX4_lay 18 = .ok (.istore 5, 2) := by decide +kernel
theorem dX4_lay_20 : decode cX4_lay 20 = .ok (.iload 5, 2) := by decide +kernel
theorem dX4_lay_22 : decode cX4_lay 22 = .ok (.iload_n 0, 1) := by decide +kernel
theorem dX4_lay_23 : decode cX4_lay 23 = .ok (.if_icmp .ge 52, 3) := by decide +kernel
theorem dX4_lay_26 : decode cX4_lay 26 = .ok (.getstatic 9, 3) := by decide +kernel
theorem dX4_lay_29 : decode cX4_lay 29 = .ok (.iload_n 0, 1) := by decide +kernel
theorem dX4_lay_30 : decode cX4_lay 30 = .ok (.iconst 1, 1) := by decide +kernel
theorem dX4_lay_31 : decode cX4_lay 31 = .ok (.isub, 1) := by decide +kernel
theorem dX4_lay_32 : decode cX4_lay 32 = .ok (.iload 5, 2) := by decide +kernel
theorem dX4_lay_34 : decode cX4_lay 34 = .ok (.isub, 1) := by decide +kernel
theorem dX4_lay_35 : decode cX4_lay 35 = .ok (.iaload, 1) := by decide +kernel
theorem dX4_lay_36 : decode cX4_lay 36 = .ok (.istore 6, 2) := by decide +kernel
theorem dX4_lay_38 : decode cX4_lay 38 = .ok (.aload_n 2, 1) := by decide +kernel
theorem dX4_lay_39 : decode cX4_lay 39 = .ok (.iload 5, 2) := by decide +kernel
theorem dX4_lay_41 : decode cX4_lay 41 = .ok (.iload_n 3, 1) := by decide +kernel
theorem dX4_lay_42 : decode cX4_lay 42 = .ok (.iload 4, 2) := by decide +kernel
theorem dX4_lay_44 : decode cX4_lay 44 = .ok (.iload 6, 2) := by decide +kernel
theorem dX4_lay_46 : decode cX4_lay 46 = .ok (.idiv, 1) := by decide +kernel
theorem dX4_lay_47 : decode cX4_lay 47 = .ok (.invokestatic 15, 3) := by decide +kernel
theorem dX4_lay_50 : decode cX4_lay 50 = .ok (.iastore, 1) := by decide +kernel
theorem dX4_lay_51 : decode cX4_lay 51 = .ok (.iload_n 3, 1) := by decide +kernel
theorem dX4_lay_52 : decode cX4_lay 52 = .ok (.iconst 1, 1) := by decide +kernel
theorem dX4_lay_53 : decode cX4_lay 53 = .ok (.aload_n 2, 1) := by decide +kernel
theorem dX4_lay_54 : decode cX4_lay 54 = .ok (.iload 5, 2) := by decide +kernel
theorem dX4_lay_56 : decode cX4_lay 56 = .ok (.iaload, 1) := by decide +kernel
theorem dX4_lay_57 : decode cX4_lay 57 = .ok (.ishl, 1) := by decide +kernel
theorem dX4_lay_58 : decode cX4_lay 58 = .ok (.iconst (-1), 1) := by decide +kernel
theorem dX4_lay_59 : decode cX4_lay 59 = .ok (.ixor, 1) := by decide +kernel
theorem dX4_lay_60 : decode cX4_lay 60 = .ok (.iand, 1) := by decide +kernel
theorem dX4_lay_61 : decode cX4_lay 61 = .ok (.istore_n 3, 1) := by decide +kernel
theorem dX4_lay_62 : decode cX4_lay 62 = .ok (.iload 4, 2) := by decide +kernel
theorem dX4_lay_64 : decode cX4_lay 64 = .ok (.iload 6, 2) := by decide +kernel
theorem dX4_lay_66 : decode cX4_lay 66 = .ok (.irem, 1) := by decide +kernel
theorem dX4_lay_67 : decode cX4_lay 67 = .ok (.istore 4, 2) := by decide +kernel
theorem dX4_lay_69 : decode cX4_lay 69 = .ok (.iinc 5 1, 3) := by decide +kernel
theorem dX4_lay_72 : decode cX4_lay 72 = .ok (.goto (-52), 3) := by decide +kernel
theorem dX4_lay_75 : decode cX4_lay 75 = .ok (.return_, 1) := by decide +kernel
theorem dX4_point_0 : decode cX4_point 0 = .ok (.iconst 0, 1) := by decide +kernel
theorem dX4_point_1 : decode cX4_point 1 = .ok (.istore_n 2, 1) := by decide +kernel
theorem dX4_point_2 : decode cX4_point 2 = .ok (.iconst 0, 1) := by decide +kernel
theorem dX4_point_3 : decode cX4_point 3 = .ok (.istore_n 3, 1) := by decide +kernel
theorem dX4_point_4 : decode cX4_point 4 = .ok (.iload_n 3, 1) := by decide +kernel
theorem dX4_point_5 : decode cX4_point 5 = .ok (.bipush 7, 2) := by decide +kernel
theorem dX4_point_7 : decode cX4_point 7 = .ok (.if_icmp .ge 28, 3) := by decide +kernel
theorem dX4_point_10 : decode cX4_point 10 = .ok (.iload_n 0, 1) := by decide +kernel
theorem dX4_point_11 : decode cX4_point 11 = .ok (.iload_n 3, 1) := by decide +kernel
theorem dX4_point_12 : decode cX4_point 12 = .ok (.ishr, 1) := by decide +kernel
theorem dX4_point_13 : decode cX4_point 13 = .ok (.iconst 1, 1) := by decide +kernel
theorem dX4_point_14 : decode cX4_point 14 = .ok (.iand, 1) := by decide +kernel
theorem dX4_point_15 : decode cX4_point 15 = .ok (.iconst 1, 1) := by decide +kernel
theorem dX4_point_16 : decode cX4_point 16 = .ok (.if_icmp .ne 13, 3) := by decide +kernel
theorem dX4_point_19 : decode cX4_point 19 = .ok (.iload_n 2, 1) := by decide +kernel
theorem dX4_point_20 : decode cX4_point 20 = .ok (.iload_n 1, 1) := by decide +kernel
theorem dX4_point_21 : decode cX4_point 21 = .ok (.if_icmp .ne 5, 3) := by decide +kernel
theorem dX4_point_24 : decode cX4_point 24 = .ok (.iload_n 3, 1) := by decide +kernel
theorem dX4_point_25 : decode cX4_point 25 = .ok (.ireturn, 1) := by decide +kernel
theorem dX4_point_26 : decode cX4_point 26 = .ok (.iinc 2 1, 3) := by decide +kernel
theorem dX4_point_29 : decode cX4_point 29 = .ok (.iinc 3 1, 3) := by decide +kernel
theorem dX4_point_32 : decode cX4_point 32 = .ok (.goto (-28), 3) := by decide +kernel
theorem dX4_point_35 : decode cX4_point 35 = .ok (.iconst 0, 1) := by decide +kernel
theorem dX4_point_36 : decode cX4_point 36 = .ok (.ireturn, 1) := by decide +kernel
theorem dX4_roundsWithArc_0 : decode cX4_roundsWithArc 0 = .ok (.iload_n 1, 1) := by decide +kernel
theorem dX4_roundsWithArc_1 : decode cX4_roundsWithArc 1 = .ok (.ifCond .eq 8, 3) := by decide +kernel
theorem dX4_roundsWithArc_4 : decode cX4_roundsWithArc 4 = .ok (.iload_n 1, 1) := by decide +kernel
theorem dX4_roundsWithArc_5 : decode cX4_roundsWithArc 5 = .ok (.iload_n 0, 1) := by decide +kernel
theorem dX4_roundsWithArc_6 : decode cX4_roundsWithArc 6 = .ok (.if_icmp .ne 11, 3) := by decide +kernel
theorem dX4_roundsWithArc_9 : decode cX4_roundsWithArc 9 = .ok (.getstatic 9, 3) := by decide +kernel
theorem dX4_roundsWithArc_12 : decode cX4_roundsWithArc 12 = .ok (.iload_n 0, 1) := by decide +kernel
theorem dX4_roundsWithArc_13 : decode cX4_roundsWithArc 13 = .ok (.iconst 1, 1) := by decide +kernel
theorem dX4_roundsWithArc_14 : decode cX4_roundsWithArc 14 = .ok (.isub, 1) := by decide +kernel
theorem dX4_roundsWithArc_15 : decode cX4_roundsWithArc 15 = .ok (.iaload, 1) := by decide +kernel
theorem dX4_roundsWithArc_16 : decode cX4_roundsWithArc 16 = .ok (.ireturn, 1) := by decide +kernel
theorem dX4_roundsWithArc_17 : decode cX4_roundsWithArc 17 = .ok (.getstatic 9, 3) := by decide +kernel
theorem dX4_roundsWithArc_20 : decode cX4_roundsWithArc 20 = .ok (.iload_n 1, 1) := by decide +kernel
theorem dX4_roundsWithArc_21 : decode cX4_roundsWithArc 21 = .ok (.iaload, 1) := by decide +kernel
theorem dX4_roundsWithArc_22 : decode cX4_roundsWithArc 22 = .ok (.getstatic 9, 3) := by decide +kernel
theorem dX4_roundsWithArc_25 : decode cX4_roundsWithArc 25 = .ok (.iload_n 0, 1) := by decide +kernel
theorem dX4_roundsWithArc_26 : decode cX4_roundsWithArc 26 = .ok (.iload_n 1, 1) := by decide +kernel
theorem dX4_roundsWithArc_27 : decode cX4_roundsWithArc 27 = .ok (.isub, 1) := by decide +kernel
theorem dX4_roundsWithArc_28 : decode cX4_roundsWithArc 28 = .ok (.iaload, 1) := by decide +kernel
theorem dX4_roundsWithArc_29 : decode cX4_roundsWithArc 29 = .ok (.imul, 1) := by decide +kernel
theorem dX4_roundsWithArc_30 : decode cX4_roundsWithArc 30 = .ok (.ireturn, 1) := by decide +kernel
theorem dX5_init_0 : decode cX5_init 0 = .ok (.aload_n 0, 1) := by decide +kernel
theorem dX5_init_1 : decode cX5_init 1 = .ok (.invokespecial 3, 3) := by decide +kernel
theorem dX5_init_4 : decode cX5_init 4 = .ok (.aload_n 0, 1) := by decide +kernel
theorem dX5_init_5 : decode cX5_init 5 = .ok (.new 9, 3) := by decide +kernel
theorem dX5_init_8 : decode cX5_init 8 = .ok (.dup, 1) := by decide +kernel
theorem dX5_init_9 : decode cX5_init 9 = .ok (.invokespecial 11, 3) := by decide +kernel
theorem dX5_init_12 : decode cX5_init 12 = .ok (.putfield 12, 3) := by decide +kernel
theorem dX5_init_15 : decode cX5_init 15 = .ok (.aload_n 0, 1) := by decide +kernel
theorem dX5_init_16 : decode cX5_init 16 = .ok (.sipush 128, 3) := by decide +kernel
theorem dX5_init_19 : decode cX5_init 19 = .ok (.newarray .long, 2) := by decide +kernel
theorem dX5_init_21 : decode cX5_init 21 = .ok (.putfield 18, 3) := by decide +kernel
theorem dX5_init_24 : decode cX5_init 24 = .ok (.aload_n 0, 1) := by decide +kernel
theorem dX5_init_25 : decode cX5_init 25 = .ok (.sipush 128, 3) := by decide +kernel
theorem dX5_init_28 : decode cX5_init 28 = .ok (.newarray .long, 2) := by decide +kernel
theorem dX5_init_30 : decode cX5_init 30 = .ok (.putfield 22, 3) := by decide +kernel
theorem dX5_init_33 : decode cX5_init 33 = .ok (.aload_n 0, 1) := by decide +kernel
theorem dX5_init_34 : decode cX5_init 34 = .ok (.sipush 129, 3) := by decide +kernel
theorem dX5_init_37 : decode cX5_init 37 = .ok (.newarray .long, 2) := by decide +kernel
theorem dX5_init_39 : decode cX5_init 39 = .ok (.putfield 25, 3) := by decide +kernel
theorem dX5_init_42 : decode cX5_init 42 = .ok (.aload_n 0, 1) := by decide +kernel
theorem dX5_init_43 : decode cX5_init 43 = .ok (.sipush 129, 3) := by decide +kernel
theorem dX5_init_46 : decode cX5_init 46 = .ok (.newarray .long, 2) := by decide +kernel
theorem dX5_init_48 : decode cX5_init 48 = .ok (.putfield 28, 3) := by decide +kernel
theorem dX5_init_51 : decode cX5_init 51 = .ok (.aload_n 0, 1) := by decide +kernel
theorem dX5_init_52 : decode cX5_init 52 = .ok (.sipush 129, 3) := by decide +kernel
theorem dX5_init_55 : decode cX5_init 55 = .ok (.newarray .int, 2) := by decide +kernel
theorem dX5_init_57 : decode cX5_init 57 = .ok (.putfield 31, 3) := by decide +kernel
theorem dX5_init_60 : decode cX5_init 60 = .ok (.aload_n 0, 1) := by decide +kernel
theorem dX5_init_61 : decode cX5_init 61 = .ok (.new 9, 3) := by decide +kernel
theorem dX5_init_64 : decode cX5_init 64 = .ok (.dup, 1) := by decide +kernel
theorem dX5_init_65 : decode cX5_init 65 = .ok (.invokespecial 11, 3) := by decide +kernel
theorem dX5_init_68 : decode cX5_init 68 = .ok (.putfield 35, 3) := by decide +kernel
theorem dX5_init_71 : decode cX5_init 71 = .ok (.aload_n 0, 1) := by decide +kernel
theorem dX5_init_72 : decode cX5_init 72 = .ok (.new 9, 3) := by decide +kernel
theorem dX5_init_75 : decode cX5_init 75 = .ok (.dup, 1) := by decide +kernel
theorem dX5_init_76 : decode cX5_init 76 = .ok (.invokespecial 11, 3) := by decide +kernel
theorem dX5_init_79 : decode cX5_init 79 = .ok (.putfield 38, 3) := by decide +kernel
theorem dX5_init_82 : decode cX5_init 82 = .ok (.aload_n 0, 1) := by decide +kernel
theorem dX5_init_83 : decode cX5_init 83 = .ok (.new 9, 3) := by decide +kernel
theorem dX5_init_86 : decode cX5_init 86 = .ok (.dup, 1) := by decide +kernel
theorem dX5_init_87 : decode cX5_init 87 = .ok (.invokespecial 11, 3) := by decide +kernel
theorem dX5_init_90 : decode cX5_init 90 = .ok (.putfield 41, 3) := by decide +kernel
theorem dX5_init_93 : decode cX5_init 93 = .ok (.return_, 1) := by decide +kernel
theorem dX5_run_0 : decode cX5_run 0 = .ok (.aload_n 0, 1) := by decide +kernel
theorem dX5_run_1 : decode cX5_run 1 = .ok (.getfield 35, 3) := by decide +kernel
theorem dX5_run_4 : decode cX5_run 4 = .ok (.aload_n 1, 1) := by decide +kernel
theorem dX5_run_5 : decode cX5_run 5 = .ok (.invokevirtual 44, 3) := by decide +kernel
theorem dX5_run_8 : decode cX5_run 8 = .ok (.iload_n 2, 1) := by decide +kernel
theorem dX5_run_9 : decode cX5_run 9 = .ok (.ifCond .ne 11, 3) := by decide +kernel
theorem dX5_run_12 : decode cX5_run 12 = .ok (.aload_n 0, 1) := by decide +kernel
theorem dX5_run_13 : decode cX5_run 13 = .ok (.getfield 35, 3) := by decide +kernel
theorem dX5_run_16 : decode cX5_run 16 = .ok (.iconst 0, 1) := by decide +kernel
theorem dX5_run_17 : decode cX5_run 17 = .ok (.invokevirtual 48, 3) := by decide +kernel
theorem dX5_run_20 : decode cX5_run 20 = .ok (.aload_n 0, 1) := by decide +kernel
theorem dX5_run_21 : decode cX5_run 21 = .ok (.getfield 12, 3) := by decide +kernel
theorem dX5_run_24 : decode cX5_run 24 = .ok (.aload_n 1, 1) := by decide +kernel
theorem dX5_run_25 : decode cX5_run 25 = .ok (.getfield 52, 3) := by decide +kernel
theorem dX5_run_28 : decode cX5_run 28 = .ok (.invokevirtual 56, 3) := by decide +kernel
theorem dX5_run_31 : decode cX5_run 31 = .ok (.aload_n 0, 1) := by decide +kernel
theorem dX5_run_32 : decode cX5_run 32 = .ok (.iconst 0, 1) := by decide +kernel
theorem dX5_run_33 : decode cX5_run 33 = .ok (.putfield 59, 3) := by decide +kernel
theorem dX5_run_36 : decode cX5_run 36 = .ok (.aload_n 0, 1) := by decide +kernel
theorem dX5_run_37 : decode cX5_run 37 = .ok (.iconst 0, 1) := by decide +kernel
theorem dX5_run_38 : decode cX5_run 38 = .ok (.putfield 62, 3) := by decide +kernel
theorem dX5_run_41 : decode cX5_run 41 = .ok (.aload_n 0, 1) := by decide +kernel
theorem dX5_run_42 : decode cX5_run 42 = .ok (.iload_n 2, 1) := by decide +kernel
theorem dX5_run_43 : decode cX5_run 43 = .ok (.invokevirtual 65, 3) := by decide +kernel
theorem dX5_run_46 : decode cX5_run 46 = .ok (.aload_n 0, 1) := by decide +kernel
theorem dX5_run_47 : decode cX5_run 47 = .ok (.getfield 25, 3) := by decide +kernel
theorem dX5_run_50 : decode cX5_run 50 = .ok (.iconst 0, 1) := by decide +kernel
theorem dX5_run_51 : decode cX5_run 51 = .ok (.aload_n 0, 1) := by decide +kernel
theorem dX5_run_52 : decode cX5_run 52 = .ok (.getfield 35, 3) := by decide +kernel
theorem dX5_run_55 : decode cX5_run 55 = .ok (.getfield 68, 3) := by decide +kernel
theorem dX5_run_58 : decode cX5_run 58 = .ok (.lastore, 1) := by decide +kernel
theorem dX5_run_59 : decode cX5_run 59 = .ok (.aload_n 0, 1) := by decide +kernel
theorem dX5_run_60 : decode cX5_run 60 = .ok (.getfield 28, 3) := by decide +kernel
theorem dX5_run_63 : decode cX5_run 63 = .ok (.iconst 0, 1) := by decide +kernel
theorem dX5_run_64 : decode cX5_run 64 = .ok (.aload_n 0, 1) := by decide +kernel
theorem dX5_run_65 : decode cX5_run 65 = .ok (.getfield 35, 3) := by decide +kernel
theorem dX5_run_68 : decode cX5_run 68 = .ok (.getfield 72, 3) := by decide +kernel
theorem dX5_run_71 : decode cX5_run 71 = .ok (.lastore, 1) := by decide +kernel
theorem dX5_run_72 : decode cX5_run 72 = .ok (.iconst 0, 1) := by decide +kernel
theorem dX5_run_73 : decode cX5_run 73 = .ok (.istore 4, 2) := by decide +kernel
theorem dX5_run_75 : decode cX5_run 75 = .ok (.iconst 0, 1) := by decide +kernel
theorem dX5_run_76 : decode cX5_run 76 = .ok (.istore 5, 2) := by decide +kernel
theorem dX5_run_78 : decode cX5_run 78 = .ok (.iload 5, 2) := by decide +kernel
theorem dX5_run_80 : decode cX5_run 80 = .ok (.iconst 2, 1) := by decide +kernel
theorem dX5_run_81 : decode cX5_run 81 = .ok (.iload_n 3, 1) := by decide +kernel
theorem dX5_run_82 : decode cX5_run 82 = .ok (.imul, 1) := by decide +kernel
theorem dX5_run_83 : decode cX5_run 83 = .ok (.iconst 2, 1) := by decide +kernel
theorem dX5_run_84 : decode cX5_run 84 = .ok (.iadd, 1) := by decide +kernel
theorem dX5_run_85 : decode cX5_run 85 = .ok (.if_icmp .gt 86, 3) := by decide +kernel
theorem dX5_run_88 : decode cX5_run 88 = .ok (.iload 4, 2) := by decide +kernel
theorem dX5_run_90 : decode cX5_run 90 = .ok (.ifCond .lt 81, 3) := by decide +kernel
theorem dX5_run_93 : decode cX5_run 93 = .ok (.aload_n 0, 1) := by decide +kernel
theorem dX5_run_94 : decode cX5_run 94 = .ok (.iload 4, 2) := by decide +kernel
theorem dX5_run_96 : decode cX5_run 96 = .ok (.invokevirtual 75, 3) := by decide +kernel
theorem dX5_run_99 : decode cX5_run 99 = .ok (.istore 6, 2) := by decide +kernel
theorem dX5_run_101 : decode cX5_run 101 = .ok (.iload 4, 2) := by decide +kernel
theorem dX5_run_103 : decode cX5_run 103 = .ok (.iload 6, 2) := by decide +kernel
theorem dX5_run_105 : decode cX5_run 105 = .ok (.iadd, 1) := by decide +kernel
theorem dX5_run_106 : decode cX5_run 106 = .ok (.aload_n 0, 1) := by decide +kernel
theorem dX5_run_107 : decode cX5_run 107 = .ok (.getfield 59, 3) := by decide +kernel
theorem dX5_run_110 : decode cX5_run 110 = .ok (.if_icmp .gt 9, 3) := by decide +kernel
theorem dX5_run_113 : decode cX5_run 113 = .ok (.iinc 4 (-1), 3) := by decide +kernel
theorem dX5_run_116 : decode cX5_run 116 = .ok (.goto 49, 3) := by decide +kernel
theorem dX5_run_119 : decode cX5_run 119 = .ok (.iload 6, 2) := by decide +kernel
theorem dX5_run_121 : decode cX5_run 121 = .ok (.ifCond .ne 15, 3) := by decide +kernel
theorem dX5_run_124 : decode cX5_run 124 = .ok (.aload_n 0, 1) := by decide +kernel
theorem dX5_run_125 : decode cX5_run 125 = .ok (.iload 4, 2) := by decide +kernel
theorem dX5_run_127 : decode cX5_run 127 = .ok (.invokevirtual 79, 3) := by decide +kernel
theorem dX5_run_130 : decode cX5_run 130 = .ok (.iinc 4 (-1), 3) := by decide +kernel
theorem dX5_run_133 : decode cX5_run 133 = .ok (.goto 32, 3) := by decide +kernel
theorem dX5_run_136 : decode cX5_run 136 = .ok (.aload_n 0, 1) := by decide +kernel
theorem dX5_run_137 : decode cX5_run 137 = .ok (.dup, 1) := by decide +kernel
theorem dX5_run_138 : decode cX5_run 138 = .ok (.getfield 62, 3) := by decide +kernel
theorem dX5_run_141 : decode cX5_run 141 = .ok (.iconst 1, 1) := by decide +kernel
theorem dX5_run_142 : decode cX5_run 142 = .ok (.iadd, 1) := by decide +kernel
theorem dX5_run_143 : decode cX5_run 143 = .ok (.putfield 62, 3) := by decide +kernel
theorem dX5_run_146 : decode cX5_run 146 = .ok (.aload_n 0, 1) := by decide +kernel
theorem dX5_run_147 : decode cX5_run 147 = .ok (.getfield 62, 3) := by decide +kernel
theorem dX5_run_150 : decode cX5_run 150 = .ok (.iload_n 3, 1) := by decide +kernel
theorem dX5_run_151 : decode cX5_run 151 = .ok (.if_icmp .le 5, 3) := by decide +kernel
theorem dX5_run_154 : decode cX5_run 154 = .ok (.iconst 0, 1) := by decide +kernel
theorem dX5_run_155 : decode cX5_run 155 = .ok (.ireturn, 1) := by decide +kernel
theorem dX5_run_156 : decode cX5_run 156 = .ok (.aload_n 0, 1) := by decide +kernel
theorem dX5_run_157 : decode cX5_run 157 = .ok (.iload 4, 2) := by decide +kernel
theorem dX5_run_159 : decode cX5_run 159 = .ok (.invokevirtual 82, 3) := by decide +kernel
theorem dX5_run_162 : decode cX5_run 162 = .ok (.iinc 4 1, 3) := by decide +kernel
theorem dX5_run_165 : decode cX5_run 165 = .ok (.iinc 5 1, 3) := by decide +kernel
theorem dX5_run_168 : decode cX5_run 168 = .ok (.goto (-90), 3) := by decide +kernel
theorem dX5_run_171 : decode cX5_run 171 = .ok (.iconst 1, 1) := by decide +kernel
theorem dX5_run_172 : decode cX5_run 172 = .ok (.ireturn, 1) := by decide +kernel
theorem dX5_leftAt_0 : decode cX5_leftAt 0 = .ok (.aload_n 0, 1) := by decide +kernel
theorem dX5_leftAt_1 : decode cX5_leftAt 1 = .ok (.getfield 25, 3) := by decide +kernel
theorem dX5_leftAt_4 : decode cX5_leftAt 4 = .ok (.iload_n 1, 1) := by decide +kernel
theorem dX5_leftAt_5 : decode cX5_leftAt 5 = .ok (.laload, 1) := by decide +kernel
theorem dX5_leftAt_6 : decode cX5_leftAt 6 = .ok (.invokestatic 85, 3) := by decide +kernel
theorem dX5_leftAt_9 : decode cX5_leftAt 9 = .ok (.aload_n 0, 1) := by decide +kernel
theorem dX5_leftAt_10 : decode cX5_leftAt 10 = .ok (.getfield 28, 3) := by decide +kernel
theorem dX5_leftAt_13 : decode cX5_leftAt 13 = .ok (.iload_n 1, 1) := by decide +kernel
theorem dX5_leftAt_14 : decode cX5_leftAt 14 = .ok (.laload, 1) := by decide +kernel
theorem dX5_leftAt_15 : decode cX5_leftAt 15 = .ok (.invokestatic 85, 3) := by decide +kernel
theorem dX5_leftAt_18 : decode cX5_leftAt 18 = .ok (.iadd, 1) := by decide +kernel
theorem dX5_leftAt_19 : decode cX5_leftAt 19 = .ok (.ireturn, 1) := by decide +kernel
theorem dX5_takeFirst_0 : decode cX5_takeFirst 0 = .ok (.aload_n 0, 1) := by decide +kernel
theorem dX5_takeFirst_1 : decode cX5_takeFirst 1 = .ok (.getfield 25, 3) := by decide +kernel
theorem dX5_takeFirst_4 : decode cX5_takeFirst 4 = .ok (.iload_n 1, 1) := by decide +kernel
theorem dX5_takeFirst_5 : decode cX5_takeFirst 5 = .ok (.laload, 1) := by decide +kernel
theorem dX5_takeFirst_6 : decode cX5_takeFirst 6 = .ok (.lstore_n 2, 1) := by decide +kernel
theorem dX5_takeFirst_7 : decode cX5_takeFirst 7 = .ok (.lload_n 2, 1) := by decide +kernel
theorem dX5_takeFirst_8 : decode cX5_takeFirst 8 = .ok (.lconst 0, 1) := by decide +kernel
theorem dX5_takeFirst_9 : decode cX5_takeFirst 9 = .ok (.lcmp, 1) := by decide +kernel
theorem dX5_takeFirst_10 : decode cX5_takeFirst 10 = .ok (.ifCond .eq 28, 3) := by decide +kernel
theorem dX5_takeFirst_13 : decode cX5_takeFirst 13 = .ok (.lload_n 2, 1) := by decide +kernel
theorem dX5_takeFirst_14 : decode cX5_takeFirst 14 = .ok (.lload_n 2, 1) := by decide +kernel
theorem dX5_takeFirst_15 : decode cX5_takeFirst 15 = .ok (.lneg, 1) := by decide +kernel
theorem dX5_takeFirst_16 : decode cX5_takeFirst 16 = .ok (.land, 1) := by decide +kernel
theorem dX5_takeFirst_17 : decode cX5_takeFirst 17 = .ok (.lconst 1, 1) := by decide +kernel
theorem dX5_takeFirst_18 : decode cX5_takeFirst 18 = .ok (.lsub, 1) := by decide +kernel
theorem dX5_takeFirst_19 : decode cX5_takeFirst 19 = .ok (.invokestatic 85, 3) := by decide +kernel
theorem dX5_takeFirst_22 : decode cX5_takeFirst 22 = .ok (.istore 4, 2) := by decide +kernel
theorem dX5_takeFirst_24 : decode cX5_takeFirst 24 = .ok (.aload_n 0, 1) := by decide +kernel
theorem dX5_takeFirst_25 : decode cX5_takeFirst 25 = .ok (.getfield 25, 3) := by decide +kernel
theorem dX5_takeFirst_28 : decode cX5_takeFirst 28 = .ok (.iload_n 1, 1) := by decide +kernel
theorem dX5_takeFirst_29 : decode cX5_takeFirst 29 = .ok (.lload_n 2, 1) := by decide +kernel
theorem dX5_takeFirst_30 : decode cX5_takeFirst 30 = .ok (.lload_n 2, 1) := by decide +kernel
theorem dX5_takeFirst_31 : decode cX5_takeFirst 31 = .ok (.lconst 1, 1) := by decide +kernel
theorem dX5_takeFirst_32 : decode cX5_takeFirst 32 = .ok (.lsub, 1) := by decide +kernel
theorem dX5_takeFirst_33 : decode cX5_takeFirst 33 = .ok (.land, 1) := by decide +kernel
theorem dX5_takeFirst_34 : decode cX5_takeFirst 34 = .ok (.lastore, 1) := by decide +kernel
theorem dX5_takeFirst_35 : decode cX5_takeFirst 35 = .ok (.goto 35, 3) := by decide +kernel
theorem dX5_takeFirst_38 : decode cX5_takeFirst 38 = .ok (.aload_n 0, 1) := by decide +kernel
theorem dX5_takeFirst_39 : decode cX5_takeFirst 39 = .ok (.getfield 28, 3) := by decide +kernel
theorem dX5_takeFirst_42 : decode cX5_takeFirst 42 = .ok (.iload_n 1, 1) := by decide +kernel
theorem dX5_takeFirst_43 : decode cX5_takeFirst 43 = .ok (.laload, 1) := by decide +kernel
theorem dX5_takeFirst_44 : decode cX5_takeFirst 44 = .ok (.lstore_n 2, 1) := by decide +kernel
theorem dX5_takeFirst_45 : decode cX5_takeFirst 45 = .ok (.bipush 64, 2) := by decide +kernel
theorem dX5_takeFirst_47 : decode cX5_takeFirst 47 = .ok (.lload_n 2, 1) := by decide +kernel
theorem dX5_takeFirst_48 : decode cX5_takeFirst 48 = .ok (.lload_n 2, 1) := by decide +kernel
theorem dX5_takeFirst_49 : decode cX5_takeFirst 49 = .ok (.lneg, 1) := by decide +kernel
theorem dX5_takeFirst_50 : decode cX5_takeFirst 50 = .ok (.land, 1) := by decide +kernel
theorem dX5_takeFirst_51 : decode cX5_takeFirst 51 = .ok (.lconst 1, 1) := by decide +kernel
theorem dX5_takeFirst_52 : decode cX5_takeFirst 52 = .ok (.lsub, 1) := by decide +kernel
theorem dX5_takeFirst_53 : decode cX5_takeFirst 53 = .ok (.invokestatic 85, 3) := by decide +kernel
theorem dX5_takeFirst_56 : decode cX5_takeFirst 56 = .ok (.iadd, 1) := by decide +kernel
theorem dX5_takeFirst_57 : decode cX5_takeFirst 57 = .ok (.istore 4, 2) := by decide +kernel
theorem dX5_takeFirst_59 : decode cX5_takeFirst 59 = .ok (.aload_n 0, 1) := by decide +kernel
theorem dX5_takeFirst_60 : decode cX5_takeFirst 60 = .ok (.getfield 28, 3) := by decide +kernel
theorem dX5_takeFirst_63 : decode cX5_takeFirst 63 = .ok (.iload_n 1, 1) := by decide +kernel
theorem dX5_takeFirst_64 : decode cX5_takeFirst 64 = .ok (.lload_n 2, 1) := by decide +kernel
theorem dX5_takeFirst_65 : decode cX5_takeFirst 65 = .ok (.lload_n 2, 1) := by decide +kernel
theorem dX5_takeFirst_66 : decode cX5_takeFirst 66 = .ok (.lconst 1, 1) := by decide +kernel
theorem dX5_takeFirst_67 : decode cX5_takeFirst 67 = .ok (.lsub, 1) := by decide +kernel
theorem dX5_takeFirst_68 : decode cX5_takeFirst 68 = .ok (.land, 1) := by decide +kernel
theorem dX5_takeFirst_69 : decode cX5_takeFirst 69 = .ok (.lastore, 1) := by decide +kernel
theorem dX5_takeFirst_70 : decode cX5_takeFirst 70 = .ok (.iload 4, 2) := by decide +kernel
theorem dX5_takeFirst_72 : decode cX5_takeFirst 72 = .ok (.sipush 128, 3) := by decide +kernel
theorem dX5_takeFirst_75 : decode cX5_takeFirst 75 = .ok (.if_icmp .ge 12, 3) := by decide +kernel
theorem dX5_takeFirst_78 : decode cX5_takeFirst 78 = .ok (.iload_n 1, 1) := by decide +kernel
theorem dX5_takeFirst_79 : decode cX5_takeFirst 79 = .ok (.iconst 1, 1) := by decide +kernel
theorem dX5_takeFirst_80 : decode cX5_takeFirst 80 = .ok (.iadd, 1) := by decide +kernel
theorem dX5_takeFirst_81 : decode cX5_takeFirst 81 = .ok (.sipush 129, 3) := by decide +kernel
theorem dX5_takeFirst_84 : decode cX5_takeFirst 84 = .ok (.if_icmp .lt 4, 3) := by decide +kernel
theorem dX5_takeFirst_87 : decode cX5_takeFirst 87 = .ok (.return_, 1) := by decide +kernel
theorem dX5_takeFirst_88 : decode cX5_takeFirst 88 = .ok (.aload_n 0, 1) := by decide +kernel
theorem dX5_takeFirst_89 : decode cX5_takeFirst 89 = .ok (.getfield 31, 3) := by decide +kernel
theorem dX5_takeFirst_92 : decode cX5_takeFirst 92 = .ok (.iload_n 1, 1) := by decide +kernel
theorem dX5_takeFirst_93 : decode cX5_takeFirst 93 = .ok (.iconst 1, 1) := by decide +kernel
theorem dX5_takeFirst_94 : decode cX5_takeFirst 94 = .ok (.iadd, 1) := by decide +kernel
theorem dX5_takeFirst_95 : decode cX5_takeFirst 95 = .ok (.iload 4, 2) := by decide +kernel
theorem dX5_takeFirst_97 : decode cX5_takeFirst 97 = .ok (.iastore, 1) := by decide +kernel
theorem dX5_takeFirst_98 : decode cX5_takeFirst 98 = .ok (.aload_n 0, 1) := by decide +kernel
theorem dX5_takeFirst_99 : decode cX5_takeFirst 99 = .ok (.getfield 25, 3) := by decide +kernel
theorem dX5_takeFirst_102 : decode cX5_takeFirst 102 = .ok (.iload_n 1, 1) := by decide +kernel
theorem dX5_takeFirst_103 : decode cX5_takeFirst 103 = .ok (.iconst 1, 1) := by decide +kernel
theorem dX5_takeFirst_104 : decode cX5_takeFirst 104 = .ok (.iadd, 1) := by decide +kernel
theorem dX5_takeFirst_105 : decode cX5_takeFirst 105 = .ok (.aload_n 0, 1) := by decide +kernel
theorem dX5_takeFirst_106 : decode cX5_takeFirst 106 = .ok (.getfield 25, 3) := by decide +kernel
theorem dX5_takeFirst_109 : decode cX5_takeFirst 109 = .ok (.iload_n 1, 1) := by decide +kernel
theorem dX5_takeFirst_110 : decode cX5_takeFirst 110 = .ok (.laload, 1) := by decide +kernel
theorem dX5_takeFirst_111 : decode cX5_takeFirst 111 = .ok (.aload_n 0, 1) := by decide +kernel
theorem dX5_takeFirst_112 : decode cX5_takeFirst 112 = .ok (.getfield 18, 3) := by decide +kernel
theorem dX5_takeFirst_115 : decode cX5_takeFirst 115 = .ok (.iload 4, 2) := by decide +kernel
theorem dX5_takeFirst_117 : decode cX5_takeFirst 117 = .ok (.laload, 1) := by decide +kernel
theorem dX5_takeFirst_118 : decode cX5_takeFirst 118 = .ok (.land, 1) := by decide +kernel
theorem dX5_takeFirst_119 : decode cX5_takeFirst 119 = .ok (.lastore, 1) := by decide +kernel
theorem dX5_takeFirst_120 : decode cX5_takeFirst 120 = .ok (.aload_n 0, 1) := by decide +kernel
theorem dX5_takeFirst_121 : decode cX5_takeFirst 121 = .ok (.getfield 28, 3) := by decide +kernel
theorem dX5_takeFirst_124 : decode cX5_takeFirst 124 = .ok (.iload_n 1, 1) := by decide +kernel
theorem dX5_takeFirst_125 : decode cX5_takeFirst 125 = .ok (.iconst 1, 1) := by decide +kernel
theorem dX5_takeFirst_126 : decode cX5_takeFirst 126 = .ok (.iadd, 1) := by decide +kernel
theorem dX5_takeFirst_127 : decode cX5_takeFirst 127 = .ok (.aload_n 0, 1) := by decide +kernel
theorem dX5_takeFirst_128 : decode cX5_takeFirst 128 = .ok (.getfield 28, 3) := by decide +kernel
theorem dX5_takeFirst_131 : decode cX5_takeFirst 131 = .ok (.iload_n 1, 1) := by decide +kernel
theorem dX5_takeFirst_132 : decode cX5_takeFirst 132 = .ok (.laload, 1) := by decide +kernel
theorem dX5_takeFirst_133 : decode cX5_takeFirst 133 = .ok (.aload_n 0, 1) := by decide +kernel
theorem dX5_takeFirst_134 : decode cX5_takeFirst 134 = .ok (.getfield 22, 3) := by decide +kernel
theorem dX5_takeFirst_137 : decode cX5_takeFirst 137 = .ok (.iload 4, 2) := by decide +kernel
theorem dX5_takeFirst_139 : decode cX5_takeFirst 139 = .ok (.laload, 1) := by decide +kernel
theorem dX5_takeFirst_140 : decode cX5_takeFirst 140 = .ok (.land, 1) := by decide +kernel
theorem dX5_takeFirst_141 : decode cX5_takeFirst 141 = .ok (.lastore, 1) := by decide +kernel
theorem dX5_takeFirst_142 : decode cX5_takeFirst 142 = .ok (.return_, 1) := by decide +kernel
theorem dX5_keepBest_0 : decode cX5_keepBest 0 = .ok (.aload_n 0, 1) := by decide +kernel
theorem dX5_keepBest_1 : decode cX5_keepBest 1 = .ok (.iload_n 1, 1) := by decide +kernel
theorem dX5_keepBest_2 : decode cX5_keepBest 2 = .ok (.putfield 59, 3) := by decide +kernel
theorem dX5_keepBest_5 : decode cX5_keepBest 5 = .ok (.aload_n 0, 1) := by decide +kernel
theorem dX5_keepBest_6 : decode cX5_keepBest 6 = .ok (.getfield 12, 3) := by decide +kernel
theorem dX5_keepBest_9 : decode cX5_keepBest 9 = .ok (.aload_n 0, 1) := by decide +kernel
theorem dX5_keepBest_10 : decode cX5_keepBest 10 = .ok (.getfield 35, 3) := by decide +kernel
theorem dX5_keepBest_13 : decode cX5_keepBest 13 = .ok (.getfield 52, 3) := by decide +kernel
theorem dX5_keepBest_16 : decode cX5_keepBest 16 = .ok (.invokevirtual 56, 3) := by decide +kernel
theorem dX5_keepBest_19 : decode cX5_keepBest 19 = .ok (.iconst 1, 1) := by decide +kernel
theorem dX5_keepBest_20 : decode cX5_keepBest 20 = .ok (.istore_n 2, 1) := by decide +kernel
theorem dX5_keepBest_21 : decode cX5_keepBest 21 = .ok (.iload_n 2, 1) := by decide +kernel
theorem dX5_keepBest_22 : decode cX5_keepBest 22 = .ok (.iload_n 1, 1) := by decide +kernel
theorem dX5_keepBest_23 : decode cX5_keepBest 23 = .ok (.if_icmp .gt 22, 3) := by decide +kernel
theorem dX5_keepBest_26 : decode cX5_keepBest 26 = .ok (.aload_n 0, 1) := by decide +kernel
theorem dX5_keepBest_27 : decode cX5_keepBest 27 = .ok (.getfield 12, 3) := by decide +kernel
theorem dX5_keepBest_30 : decode cX5_keepBest 30 = .ok (.aload_n 0, 1) := by decide +kernel
theorem dX5_keepBest_31 : decode cX5_keepBest 31 = .ok (.getfield 31, 3) := by decide +kernel
theorem dX5_keepBest_34 : decode cX5_keepBest 34 = .ok (.iload_n 2, 1) := by decide +kernel
theorem dX5_keepBest_35 : decode cX5_keepBest 35 = .ok (.iaload, 1) := by decide +kernel
theorem dX5_keepBest_36 : decode cX5_keepBest 36 = .ok (.invokevirtual 91, 3) := by decide +kernel
theorem dX5_keepBest_39 : decode cX5_keepBest 39 = .ok (.iinc 2 1, 3) := by decide +kernel
theorem dX5_keepBest_42 : decode cX5_keepBest 42 = .ok (.goto (-21), 3) := by decide +kernel
theorem dX5_keepBest_45 : decode cX5_keepBest 45 = .ok (.return_, 1) := by decide +kernel
theorem dX5_pairUp_0 : decode cX5_pairUp 0 = .ok (.iconst 0, 1) := by decide +kernel
theorem dX5_pairUp_1 : decode cX5_pairUp 1 = .ok (.istore_n 2, 1) := by decide +kernel
theorem dX5_pairUp_2 : decode cX5_pairUp 2 = .ok (.iload_n 2, 1) := by decide +kernel
theorem dX5_pairUp_3 : decode cX5_pairUp 3 = .ok (.aload_n 0, 1) := by decide +kernel
theorem dX5_pairUp_4 : decode cX5_pairUp 4 = .ok (.getfield 35, 3) := by decide +kernel
theorem dX5_pairUp_7 : decode cX5_pairUp 7 = .ok (.invokevirtual 94, 3) := by decide +kernel
theorem dX5_pairUp_10 : decode cX5_pairUp 10 = .ok (.if_icmp .ge 52, 3) := by decide +kernel
theorem dX5_pairUp_13 : decode cX5_pairUp 13 = .ok (.aload_n 0, 1) := by decide +kernel
theorem dX5_pairUp_14 : decode cX5_pairUp 14 = .ok (.getfield 35, 3) := by decide +kernel
theorem dX5_pairUp_17 : decode cX5_pairUp 17 = .ok (.iload_n 2, 1) := by decide +kernel
theorem dX5_pairUp_18 : decode cX5_pairUp 18 = .ok (.invokevirtual 98, 3) := by decide +kernel
theorem dX5_pairUp_21 : decode cX5_pairUp 21 = .ok (.ifCond .eq 35, 3) := by decide +kernel
theorem dX5_pairUp_24 : decode cX5_pairUp 24 = .ok (.aload_n 0, 1) := by decide +kernel
theorem dX5_pairUp_25 : decode cX5_pairUp 25 = .ok (.iload_n 2, 1) := by decide +kernel
theorem dX5_pairUp_26 : decode cX5_pairUp 26 = .ok (.iload_n 1, 1) := by decide +kernel
theorem dX5_pairUp_27 : decode cX5_pairUp 27 = .ok (.invokevirtual 102, 3) := by decide +kernel
theorem dX5_pairUp_30 : decode cX5_pairUp 30 = .ok (.aload_n 0, 1) := by decide +kernel
theorem dX5_pairUp_31 : decode cX5_pairUp 31 = .ok (.getfield 18, 3) := by decide +kernel
theorem dX5_pairUp_34 : decode cX5_pairUp 34 = .ok (.iload_n 2, 1) := by decide +kernel
theorem dX5_pairUp_35 : decode cX5_pairUp 35 = .ok (.aload_n 0, 1) := by decide +kernel
theorem dX5_pairUp_36 : decode cX5_pairUp 36 = .ok (.getfield 38, 3) := by decide +kernel
theorem dX5_pairUp_39 : decode cX5_pairUp 39 = .ok (.getfield 68, 3) := by decide +kernel
theorem dX5_pairUp_42 : decode cX5_pairUp 42 = .ok (.lastore, 1) := by decide +kernel
theorem dX5_pairUp_43 : decode cX5_pairUp 43 = .ok (.aload_n 0, 1) := by decide +kernel
theorem dX5_pairUp_44 : decode cX5_pairUp 44 = .ok (.getfield 22, 3) := by decide +kernel
theorem dX5_pairUp_47 : decode cX5_pairUp 47 = .ok (.iload_n 2, 1) := by decide +kernel
theorem dX5_pairUp_48 : decode cX5_pairUp 48 = .ok (.aload_n 0, 1) := by decide +kernel
theorem dX5_pairUp_49 : decode cX5_pairUp 49 = .ok (.getfield 38, 3) := by decide +kernel
theorem dX5_pairUp_52 : decode cX5_pairUp 52 = .ok (.getfield 72, 3) := by decide +kernel
theorem dX5_pairUp_55 : decode cX5_pairUp 55 = .ok (.lastore, 1) := by decide +kernel
theorem dX5_pairUp_56 : decode cX5_pairUp 56 = .ok (.iinc 2 1, 3) := by decide +kernel
theorem dX5_pairUp_59 : decode cX5_pairUp 59 = .ok (.goto (-57), 3) := by decide +kernel
theorem dX5_pairUp_62 : decode cX5_pairUp 62 = .ok (.return_, 1) := by decide +kernel
theorem dX5_fitting_0 : decode cX5_fitting 0 = .ok (.aload_n 0, 1) := by decide +kernel
theorem dX5_fitting_1 : decode cX5_fitting 1 = .ok (.getfield 38, 3) := by decide +kernel
theorem dX5_fitting_4 : decode cX5_fitting 4 = .ok (.aload_n 0, 1) := by decide +kernel
theorem dX5_fitting_5 : decode cX5_fitting 5 = .ok (.getfield 35, 3) := by decide +kernel
theorem dX5_fitting_8 : decode cX5_fitting 8 = .ok (.invokevirtual 44, 3) := by decide +kernel
theorem dX5_fitting_11 : decode cX5_fitting 11 = .ok (.iload_n 2, 1) := by decide +kernel
theorem dX5_fitting_12 : decode cX5_fitting 12 = .ok (.iconst 1, 1) := by decide +kernel
theorem dX5_fitting_13 : decode cX5_fitting 13 = .ok (.if_icmp .gt 15, 3) := by decide +kernel
theorem dX5_fitting_16 : decode cX5_fitting 16 = .ok (.aload_n 0, 1) := by decide +kernel
theorem dX5_fitting_17 : decode cX5_fitting 17 = .ok (.getfield 38, 3) := by decide +kernel
theorem dX5_fitting_20 : decode cX5_fitting 20 = .ok (.iload_n 1, 1) := by decide +kernel
theorem dX5_fitting_21 : decode cX5_fitting 21 = .ok (.iconst 0, 1) := by decide +kernel
theorem dX5_fitting_22 : decode cX5_fitting 22 = .ok (.invokevirtual 106, 3) := by decide +kernel
theorem dX5_fitting_25 : decode cX5_fitting 25 = .ok (.goto 19, 3) := by decide +kernel
theorem dX5_fitting_28 : decode cX5_fitting 28 = .ok (.aload_n 0, 1) := by decide +kernel
theorem dX5_fitting_29 : decode cX5_fitting 29 = .ok (.getfield 38, 3) := by decide +kernel
theorem dX5_fitting_32 : decode cX5_fitting 32 = .ok (.aload_n 0, 1) := by decide +kernel
theorem dX5_fitting_33 : decode cX5_fitting 33 = .ok (.getfield 35, 3) := by decide +kernel
theorem dX5_fitting_36 : decode cX5_fitting 36 = .ok (.iload_n 1, 1) := by decide +kernel
theorem dX5_fitting_37 : decode cX5_fitting 37 = .ok (.aload_n 0, 1) := by decide +kernel
theorem dX5_fitting_38 : decode cX5_fitting 38 = .ok (.getfield 41, 3) := by decide +kernel
theorem dX5_fitting_41 : decode cX5_fitting 41 = .ok (.invokevirtual 109, 3) := by decide +kernel
theorem dX5_fitting_44 : decode cX5_fitting 44 = .ok (.iload_n 2, 1) := by decide +kernel
theorem dX5_fitting_45 : decode cX5_fitting 45 = .ok (.ifCond .eq 8, 3) := by decide +kernel
theorem dX5_fitting_48 : decode cX5_fitting 48 = .ok (.iload_n 2, 1) := by decide +kernel
theorem dX5_fitting_49 : decode cX5_fitting 49 = .ok (.iconst 2, 1) := by decide +kernel
theorem dX5_fitting_50 : decode cX5_fitting 50 = .ok (.if_icmp .ne 14, 3) := by decide +kernel
theorem dX5_fitting_53 : decode cX5_fitting 53 = .ok (.aload_n 0, 1) := by decide +kernel
theorem dX5_fitting_54 : decode cX5_fitting 54 = .ok (.getfield 38, 3) := by decide +kernel
theorem dX5_fitting_57 : decode cX5_fitting 57 = .ok (.aload_n 0, 1) := by decide +kernel
theorem dX5_fitting_58 : decode cX5_fitting 58 = .ok (.getfield 35, 3) := by decide +kernel
theorem dX5_fitting_61 : decode cX5_fitting 61 = .ok (.invokevirtual 113, 3) := by decide +kernel
theorem dX5_fitting_64 : decode cX5_fitting 64 = .ok (.return_, 1) := by decide +kernel
theorem dX6_init_0 : decode cX6_init 0 = .ok (.aload_n 0, 1) := by decide +kernel
theorem dX6_init_1 : decode cX6_init 1 = .ok (.invokespecial 3, 3) := by decide +kernel
theorem dX6_init_4 : decode cX6_init 4 = .ok (.aload_n 0, 1) := by decide +kernel
theorem dX6_init_5 : decode cX6_init 5 = .ok (.sipush 800, 3) := by decide +kernel
theorem dX6_init_8 : decode cX6_init 8 = .ok (.newarray .byte, 2) := by decide +kernel
theorem dX6_init_10 : decode cX6_init 10 = .ok (.putfield 11, 3) := by decide +kernel
theorem dX6_init_13 : decode cX6_init 13 = .ok (.aload_n 0, 1) := by decide +kernel
theorem dX6_init_14 : decode cX6_init 14 = .ok (.iconst (-1), 1) := by decide +kernel
theorem dX6_init_15 : decode cX6_init 15 = .ok (.putfield 15, 3) := by decide +kernel
theorem dX6_init_18 : decode cX6_init 18 = .ok (.return_, 1) := by decide +kernel
theorem dX6_hasRoom_0 : decode cX6_hasRoom 0 = .ok (.aload_n 0, 1) := by decide +kernel
theorem dX6_hasRoom_1 : decode cX6_hasRoom 1 = .ok (.getfield 19, 3) := by decide +kernel
theorem dX6_hasRoom_4 : decode cX6_hasRoom 4 = .ok (.iload_n 1, 1) := by decide +kernel
theorem dX6_hasRoom_5 : decode cX6_hasRoom 5 = .ok (.iadd, 1) := by decide +kernel
theorem dX6_hasRoom_6 : decode cX6_hasRoom 6 = .ok (.sipush 800, 3) := by decide +kernel
theorem dX6_hasRoom_9 : decode cX6_hasRoom 9 = .ok (.if_icmp .gt 7, 3) := by decide +kernel
theorem dX6_hasRoom_12 : decode cX6_hasRoom 12 = .ok (.iconst 1, 1) := by decide +kernel
theorem dX6_hasRoom_13 : decode cX6_hasRoom 13 = .ok (.goto 4, 3) := by decide +kernel
theorem dX6_hasRoom_16 : decode cX6_hasRoom 16 = .ok (.iconst 0, 1) := by decide +kernel
theorem dX6_hasRoom_17 : decode cX6_hasRoom 17 = .ok (.ireturn, 1) := by decide +kernel
theorem dX6_append_0 : decode cX6_append 0 = .ok (.bipush 24, 2) := by decide +kernel
theorem dX6_append_2 : decode cX6_append 2 = .ok (.istore_n 2, 1) := by decide +kernel
theorem dX6_append_3 : decode cX6_append 3 = .ok (.iload_n 2, 1) := by decide +kernel
theorem dX6_append_4 : decode cX6_append 4 = .ok (.ifCond .lt 42, 3) := by decide +kernel
theorem dX6_append_7 : decode cX6_append 7 = .ok (.aload_n 0, 1) := by decide +kernel
theorem dX6_append_8 : decode cX6_append 8 = .ok (.getfield 19, 3) := by decide +kernel
theorem dX6_append_11 : decode cX6_append 11 = .ok (.sipush 800, 3) := by decide +kernel
theorem dX6_append_14 : decode cX6_append 14 = .ok (.if_icmp .ge 32, 3) := by decide +kernel
theorem dX6_append_17 : decode cX6_append 17 = .ok (.aload_n 0, 1) := by decide +kernel
theorem dX6_append_18 : decode cX6_append 18 = .ok (.getfield 11, 3) := by decide +kernel
theorem dX6_append_21 : decode cX6_append 21 = .ok (.aload_n 0, 1) := by decide +kernel
theorem dX6_append_22 : decode cX6_append 22 = .ok (.getfield 19, 3) := by decide +kernel
theorem dX6_append_25 : decode cX6_append 25 = .ok (.iload_n 1, 1) := by decide +kernel
theorem dX6_append_26 : decode cX6_append 26 = .ok (.iload_n 2, 1) := by decide +kernel
theorem dX6_append_27 : decode cX6_append 27 = .ok (.ishr, 1) := by decide +kernel
theorem dX6_append_28 : decode cX6_append 28 = .ok (.i2b, 1) := by decide +kernel
theorem dX6_append_29 : decode cX6_append 29 = .ok (.bastore, 1) := by decide +kernel
theorem dX6_append_30 : decode cX6_append 30 = .ok (.aload_n 0, 1) := by decide +kernel
theorem dX6_append_31 : decode cX6_append 31 = .ok (.dup, 1) := by decide +kernel
theorem dX6_append_32 : decode cX6_append 32 = .ok (.getfield 19, 3) := by decide +kernel
theorem dX6_append_35 : decode cX6_append 35 = .ok (.iconst 1, 1) := by decide +kernel
theorem dX6_append_36 : decode cX6_append 36 = .ok (.iadd, 1) := by decide +kernel
theorem dX6_append_37 : decode cX6_append 37 = .ok (.putfield 19, 3) := by decide +kernel
theorem dX6_append_40 : decode cX6_append 40 = .ok (.iinc 2 (-8), 3) := by decide +kernel
theorem dX6_append_43 : decode cX6_append 43 = .ok (.goto (-40), 3) := by decide +kernel
theorem dX6_append_46 : decode cX6_append 46 = .ok (.return_, 1) := by decide +kernel
theorem dX6_read_0 : decode cX6_read 0 = .ok (.aload_n 0, 1) := by decide +kernel
theorem dX6_read_1 : decode cX6_read 1 = .ok (.iconst 0, 1) := by decide +kernel
theorem dX6_read_2 : decode cX6_read 2 = .ok (.putfield 22, 3) := by decide +kernel
theorem dX6_read_5 : decode cX6_read 5 = .ok (.aload_n 0, 1) := by decide +kernel
theorem dX6_read_6 : decode cX6_read 6 = .ok (.iconst (-1), 1) := by decide +kernel
theorem dX6_read_7 : decode cX6_read 7 = .ok (.putfield 15, 3) := by decide +kernel
theorem dX6_read_10 : decode cX6_read 10 = .ok (.aload_n 0, 1) := by decide +kernel
theorem dX6_read_11 : decode cX6_read 11 = .ok (.iconst 0, 1) := by decide +kernel
theorem dX6_read_12 : decode cX6_read 12 = .ok (.putfield 25, 3) := by decide +kernel
theorem dX6_read_15 : decode cX6_read 15 = .ok (.aload_n 0, 1) := by decide +kernel
theorem dX6_read_16 : decode cX6_read 16 = .ok (.invokevirtual 28, 3) := by decide +kernel
theorem dX6_read_19 : decode cX6_read 19 = .ok (.aload_n 0, 1) := by decide +kernel
theorem dX6_read_20 : decode cX6_read 20 = .ok (.ldc 31, 2) := by decide +kernel
theorem dX6_read_22 : decode cX6_read 22 = .ok (.invokevirtual 33, 3) := by decide +kernel
theorem dX6_read_25 : decode cX6_read 25 = .ok (.ifCond .ne 13, 3) := by decide +kernel
theorem dX6_read_28 : decode cX6_read 28 = .ok (.aload_n 0, 1) := by decide +kernel
theorem dX6_read_29 : decode cX6_read 29 = .ok (.iconst 1, 1) := by decide +kernel
theorem dX6_read_30 : decode cX6_read 30 = .ok (.aload_n 0, 1) := by decide +kernel
theorem dX6_read_31 : decode cX6_read 31 = .ok (.getfield 37, 3) := by decide +kernel
theorem dX6_read_34 : decode cX6_read 34 = .ok (.invokevirtual 40, 3) := by decide +kernel
theorem dX6_read_37 : decode cX6_read 37 = .ok (.ireturn, 1) := by decide +kernel
theorem dX6_read_38 : decode cX6_read 38 = .ok (.aload_n 0, 1) := by decide +kernel
theorem dX6_read_39 : decode cX6_read 39 = .ok (.invokevirtual 28, 3) := by decide +kernel
theorem dX6_read_42 : decode cX6_read 42 = .ok (.aload_n 0, 1) := by decide +kernel
theorem dX6_read_43 : decode cX6_read 43 = .ok (.getfield 44, 3) := by decide +kernel
theorem dX6_read_46 : decode cX6_read 46 = .ok (.iconst 2, 1) := by decide +kernel
theorem dX6_read_47 : decode cX6_read 47 = .ok (.if_icmp .eq 13, 3) := by decide +kernel
theorem dX6_read_50 : decode cX6_read 50 = .ok (.aload_n 0, 1) := by decide +kernel
theorem dX6_read_51 : decode cX6_read 51 = .ok (.iconst 1, 1) := by decide +kernel
theorem dX6_read_52 : decode cX6_read 52 = .ok (.aload_n 0, 1) := by decide +kernel
theorem dX6_read_53 : decode cX6_read 53 = .ok (.getfield 37, 3) := by decide +kernel
theorem dX6_read_56 : decode cX6_read 56 = .ok (.invokevirtual 40, 3) := by decide +kernel
theorem dX6_read_59 : decode cX6_read 59 = .ok (.ireturn, 1) := by decide +kernel
theorem dX6_read_60 : decode cX6_read 60 = .ok (.aload_n 0, 1) := by decide +kernel
theorem dX6_read_61 : decode cX6_read 61 = .ok (.invokevirtual 47, 3) := by decide +kernel
theorem dX6_read_64 : decode cX6_read 64 = .ok (.istore_n 2, 1) := by decide +kernel
theorem dX6_read_65 : decode cX6_read 65 = .ok (.iload_n 2, 1) := by decide +kernel
theorem dX6_read_66 : decode cX6_read 66 = .ok (.invokestatic 51, 3) := by decide +kernel
theorem dX6_read_69 : decode cX6_read 69 = .ok (.ifCond .ne 13, 3) := by decide +kernel
theorem dX6_read_72 : decode cX6_read 72 = .ok (.aload_n 0, 1) := by decide +kernel
theorem dX6_read_73 : decode cX6_read 73 = .ok (.iconst 2, 1) := by decide +kernel
theorem dX6_read_74 : decode cX6_read 74 = .ok (.aload_n 0, 1) := by decide +kernel
theorem dX6_read_75 : decode cX6_read 75 = .ok (.getfield 37, 3) := by decide +kernel
theorem dX6_read_78 : decode cX6_read 78 = .ok (.invokevirtual 40, 3) := by decide +kernel
theorem dX6_read_81 : decode cX6_read 81 = .ok (.ireturn, 1) := by decide +kernel
theorem dX6_read_82 : decode cX6_read 82 = .ok (.aload_n 1, 1) := by decide +kernel
theorem dX6_read_83 : decode cX6_read 83 = .ok (.iload_n 2, 1) := by decide +kernel
theorem dX6_read_84 : decode cX6_read 84 = .ok (.invokevirtual 55, 3) := by decide +kernel
theorem dX6_read_87 : decode cX6_read 87 = .ok (.aload_n 0, 1) := by decide +kernel
theorem dX6_read_88 : decode cX6_read 88 = .ok (.invokevirtual 28, 3) := by decide +kernel
theorem dX6_read_91 : decode cX6_read 91 = .ok (.aload_n 0, 1) := by decide +kernel
theorem dX6_read_92 : decode cX6_read 92 = .ok (.bipush 58, 2) := by decide +kernel
theorem dX6_read_94 : decode cX6_read 94 = .ok (.invokevirtual 61, 3) := by decide +kernel
theorem dX6_read_97 : decode cX6_read 97 = .ok (.ifCond .eq 13, 3) := by decide +kernel
theorem dX6_read_100 : decode cX6_read 100 = .ok (.aload_n 0, 1) := by decide +kernel
theorem dX6_read_101 : decode cX6_read 101 = .ok (.aload_n 1, 1) := by decide +kernel
theorem dX6_read_102 : decode cX6_read 102 = .ok (.invokevirtual 65, 3) := by decide +kernel
theorem dX6_read_105 : decode cX6_read 105 = .ok (.ifCond .ne 5, 3) := by decide +kernel
theorem dX6_read_108 : decode cX6_read 108 = .ok (.iconst 0, 1) := by decide +kernel
theorem dX6_read_109 : decode cX6_read 109 = .ok (.ireturn, 1) := by decide +kernel
theorem dX6_read_110 : decode cX6_read 110 = .ok (.aload_n 0, 1) := by decide +kernel
theorem dX6_read_111 : decode cX6_read 111 = .ok (.bipush 59, 2) := by decide +kernel
theorem dX6_read_113 : decode cX6_read 113 = .ok (.invokevirtual 61, 3) := by decide +kernel
theorem dX6_read_116 : decode cX6_read 116 = .ok (.ifCond .ne 13, 3) := by decide +kernel
theorem dX6_read_119 : decode cX6_read 119 = .ok (.aload_n 0, 1) := by decide +kernel
theorem dX6_read_120 : decode cX6_read 120 = .ok (.iconst 1, 1) := by decide +kernel
theorem dX6_read_121 : decode cX6_read 121 = .ok (.aload_n 0, 1) := by decide +kernel
theorem dX6_read_122 : decode cX6_read 122 = .ok (.getfield 37, 3) := by decide +kernel
theorem dX6_read_125 : decode cX6_read 125 = .ok (.invokevirtual 40, 3) := by decide +kernel
theorem dX6_read_128 : decode cX6_read 128 = .ok (.ireturn, 1) := by decide +kernel
theorem dX6_read_129 : decode cX6_read 129 = .ok (.aload_n 0, 1) := by decide +kernel
theorem dX6_read_130 : decode cX6_read 130 = .ok (.invokevirtual 28, 3) := by decide +kernel
theorem dX6_read_133 : decode cX6_read 133 = .ok (.aload_n 0, 1) := by decide +kernel
theorem dX6_read_134 : decode cX6_read 134 = .ok (.getfield 44, 3) := by decide +kernel
theorem dX6_read_137 : decode cX6_read 137 = .ok (.ifCond .eq 15, 3) := by decide +kernel
theorem dX6_read_140 : decode cX6_read 140 = .ok (.aload_n 0, 1) := by decide +kernel
theorem dX6_read_141 : decode cX6_read 141 = .ok (.iconst 1, 1) := by decide +kernel
theorem dX6_read_142 : decode cX6_read 142 = .ok (.aload_n 0, 1) := by decide +kernel
theorem dX6_read_143 : decode cX6_read 143 = .ok (.getfield 37, 3) := by decide +kernel
theorem dX6_read_146 : decode cX6_read 146 = .ok (.invokevirtual 40, 3) := by decide +kernel
theorem dX6_read_149 : decode cX6_read 149 = .ok (.ifCond .eq 7, 3) := by decide +kernel
theorem dX6_read_152 : decode cX6_read 152 = .ok (.iconst 1, 1) := by decide +kernel
theorem dX6_read_153 : decode cX6_read 153 = .ok (.goto 4, 3) := by decide +kernel
theorem dX6_read_156 : decode cX6_read 156 = .ok (.iconst 0, 1) := by decide +kernel
theorem dX6_read_157 : decode cX6_read 157 = .ok (.ireturn, 1) := by decide +kernel
theorem dX6_readSets_0 : decode cX6_readSets 0 = .ok (.iconst 0, 1) := by decide +kernel
theorem dX6_readSets_1 : decode cX6_readSets 1 = .ok (.istore_n 2, 1) := by decide +kernel
theorem dX6_readSets_2 : decode cX6_readSets 2 = .ok (.iload_n 2, 1) := by decide +kernel
theorem dX6_readSets_3 : decode cX6_readSets 3 = .ok (.sipush 800, 3) := by decide +kernel
theorem dX6_readSets_6 : decode cX6_readSets 6 = .ok (.if_icmp .ge 39, 3) := by decide +kernel
theorem dX6_readSets_9 : decode cX6_readSets 9 = .ok (.aload_n 0, 1) := by decide +kernel
theorem dX6_readSets_10 : decode cX6_readSets 10 = .ok (.invokevirtual 28, 3) := by decide +kernel
theorem dX6_readSets_13 : decode cX6_readSets 13 = .ok (.aload_n 0, 1) := by decide +kernel
theorem dX6_readSets_14 : decode cX6_readSets 14 = .ok (.aload_n 1, 1) := by decide +kernel
theorem dX6_readSets_15 : decode cX6_readSets 15 = .ok (.invokevirtual 69, 3) := by decide +kernel
theorem dX6_readSets_18 : decode cX6_readSets 18 = .ok (.ifCond .ne 5, 3) := by decide +kernel
theorem dX6_readSets_21 : decode cX6_readSets 21 = .ok (.iconst 0, 1) := by decide +kernel
theorem dX6_readSets_22 : decode cX6_readSets 22 = .ok (.ireturn, 1) := by decide +kernel
theorem dX6_readSets_23 : decode cX6_readSets 23 = .ok (.aload_n 0, 1) := by decide +kernel
theorem dX6_readSets_24 : decode cX6_readSets 24 = .ok (.invokevirtual 28, 3) := by decide +kernel
theorem dX6_readSets_27 : decode cX6_readSets 27 = .ok (.aload_n 0, 1) := by decide +kernel
theorem dX6_readSets_28 : decode cX6_readSets 28 = .ok (.bipush 44, 2) := by decide +kernel
theorem dX6_readSets_30 : decode cX6_readSets 30 = .ok (.invokevirtual 61, 3) := by decide +kernel
theorem dX6_readSets_33 : decode cX6_readSets 33 = .ok (.ifCond .ne 6, 3) := by decide +kernel
theorem dX6_readSets_36 : decode cX6_readSets 36 = .ok (.goto 9, 3) := by decide +kernel
theorem dX6_readSets_39 : decode cX6_readSets 39 = .ok (.iinc 2 1, 3) := by decide +kernel
theorem dX6_readSets_42 : decode cX6_readSets 42 = .ok (.goto (-40), 3) := by decide +kernel
theorem dX6_readSets_45 : decode cX6_readSets 45 = .ok (.iconst 1, 1) := by decide +kernel
theorem dX6_readSets_46 : decode cX6_readSets 46 = .ok (.ireturn, 1) := by decide +kernel
theorem dX6_readSet_0 : decode cX6_readSet 0 = .ok (.iconst 0, 1) := by decide +kernel
theorem dX6_readSet_1 : decode cX6_readSet 1 = .ok (.istore_n 2, 1) := by decide +kernel
theorem dX6_readSet_2 : decode cX6_readSet 2 = .ok (.aload_n 0, 1) := by decide +kernel
theorem dX6_readSet_3 : decode cX6_readSet 3 = .ok (.getfield 44, 3) := by decide +kernel
theorem dX6_readSet_6 : decode cX6_readSet 6 = .ok (.iconst 2, 1) := by decide +kernel
theorem dX6_readSet_7 : decode cX6_readSet 7 = .ok (.if_icmp .ne 69, 3) := by decide +kernel
theorem dX6_readSet_10 : decode cX6_readSet 10 = .ok (.aload_n 0, 1) := by decide +kernel
theorem dX6_readSet_11 : decode cX6_readSet 11 = .ok (.getfield 37, 3) := by decide +kernel
theorem dX6_readSet_14 : decode cX6_readSet 14 = .ok (.istore_n 3, 1) := by decide +kernel
theorem dX6_readSet_15 : decode cX6_readSet 15 = .ok (.iload_n 3, 1) := by decide +kernel
theorem dX6_readSet_16 : decode cX6_readSet 16 = .ok (.aload_n 0, 1) := by decide +kernel
theorem dX6_readSet_17 : decode cX6_readSet 17 = .ok (.getfield 25, 3) := by decide +kernel
theorem dX6_readSet_20 : decode cX6_readSet 20 = .ok (.if_icmp .ge 53, 3) := by decide +kernel
theorem dX6_readSet_23 : decode cX6_readSet 23 = .ok (.aload_n 0, 1) := by decide +kernel
theorem dX6_readSet_24 : decode cX6_readSet 24 = .ok (.getfield 11, 3) := by decide +kernel
theorem dX6_readSet_27 : decode cX6_readSet 27 = .ok (.iload_n 3, 1) := by decide +kernel
theorem dX6_readSet_28 : decode cX6_readSet 28 = .ok (.baload, 1) := by decide +kernel
theorem dX6_readSet_29 : decode cX6_readSet 29 = .ok (.bipush 48, 2) := by decide +kernel
theorem dX6_readSet_31 : decode cX6_readSet 31 = .ok (.isub, 1) := by decide +kernel
theorem dX6_readSet_32 : decode cX6_readSet 32 = .ok (.istore 4, 2) := by decide +kernel
theorem dX6_readSet_34 : decode cX6_readSet 34 = .ok (.iload 4, 2) := by decide +kernel
theorem dX6_readSet_36 : decode cX6_readSet 36 = .ok (.aload_n 1, 1) := by decide +kernel
theorem dX6_readSet_37 : decode cX6_readSet 37 = .ok (.getfield 72, 3) := by decide +kernel
theorem dX6_readSet_40 : decode cX6_readSet 40 = .ok (.if_icmp .ge 13, 3) := by decide +kernel
theorem dX6_readSet_43 : decode cX6_readSet 43 = .ok (.iload_n 2, 1) := by decide +kernel
theorem dX6_readSet_44 : decode cX6_readSet 44 = .ok (.iload 4, 2) := by decide +kernel
theorem dX6_readSet_46 : decode cX6_readSet 46 = .ok (.ishr, 1) := by decide +kernel
theorem dX6_readSet_47 : decode cX6_readSet 47 = .ok (.iconst 1, 1) := by decide +kernel
theorem dX6_readSet_48 : decode cX6_readSet 48 = .ok (.iand, 1) := by decide +kernel
theorem dX6_readSet_49 : decode cX6_readSet 49 = .ok (.iconst 1, 1) := by decide +kernel
theorem dX6_readSet_50 : decode cX6_readSet 50 = .ok (.if_icmp .ne 10, 3) := by decide +kernel
theorem dX6_readSet_53 : decode cX6_readSet 53 = .ok (.aload_n 0, 1) := by decide +kernel
theorem dX6_readSet_54 : decode cX6_readSet 54 = .ok (.iconst 3, 1) := by decide +kernel
theorem dX6_readSet_55 : decode cX6_readSet 55 = .ok (.iload_n 3, 1) := by decide +kernel
theorem dX6_readSet_56 : decode cX6_readSet 56 = .ok (.invokevirtual 40, 3) := by decide +kernel
theorem dX6_readSet_59 : decode cX6_readSet 59 = .ok (.ireturn, 1) := by decide +kernel
theorem dX6_readSet_60 : decode cX6_readSet 60 = .ok (.iload_n 2, 1) := by decide +kernel
theorem dX6_readSet_61 : decode cX6_readSet 61 = .ok (.iconst 1, 1) := by decide +kernel
theorem dX6_readSet_62 : decode cX6_readSet 62 = .ok (.iload 4, 2) := by decide +kernel
theorem dX6_readSet_64 : decode cX6_readSet 64 = .ok (.ishl, 1) := by decide +kernel
theorem dX6_readSet_65 : decode cX6_readSet 65 = .ok (.ior, 1) := by decide +kernel
theorem dX6_readSet_66 : decode cX6_readSet 66 = .ok (.istore_n 2, 1) := by decide +kernel
theorem dX6_readSet_67 : decode cX6_readSet 67 = .ok (.iinc 3 1, 3) := by decide +kernel
theorem dX6_readSet_70 : decode cX6_readSet 70 = .ok (.goto (-55), 3) := by decide +kernel
theorem dX6_readSet_73 : decode cX6_readSet 73 = .ok (.goto 22, 3) := by decide +kernel
theorem dX6_readSet_76 : decode cX6_readSet 76 = .ok (.aload_n 0, 1) := by decide +kernel
theorem dX6_readSet_77 : decode cX6_readSet 77 = .ok (.ldc 75, 2) := by decide +kernel
theorem dX6_readSet_79 : decode cX6_readSet 79 = .ok (.invokevirtual 33, 3) := by decide +kernel
theorem dX6_readSet_82 : decode cX6_readSet 82 = .ok (.ifCond .ne 13, 3) := by decide +kernel
theorem dX6_readSet_85 : decode cX6_readSet 85 = .ok (.aload_n 0, 1) := by decide +kernel
theorem dX6_readSet_86 : decode cX6_readSet 86 = .ok (.iconst 1, 1) := by decide +kernel
theorem dX6_readSet_87 : decode cX6_readSet 87 = .ok (.aload_n 0, 1) := by decide +kernel
theorem dX6_readSet_88 : decode cX6_readSet 88 = .ok (.getfield 37, 3) := by decide +kernel
theorem dX6_readSet_91 : decode cX6_readSet 91 = .ok (.invokevirtual 40, 3) := by decide +kernel
theorem dX6_readSet_94 : decode cX6_readSet 94 = .ok (.ireturn, 1) := by decide +kernel
theorem dX6_readSet_95 : decode cX6_readSet 95 = .ok (.aload_n 1, 1) := by decide +kernel
theorem dX6_readSet_96 : decode cX6_readSet 96 = .ok (.iload_n 2, 1) := by decide +kernel
theorem dX6_readSet_97 : decode cX6_readSet 97 = .ok (.invokevirtual 77, 3) := by decide +kernel
theorem dX6_readSet_100 : decode cX6_readSet 100 = .ok (.ifCond .eq 13, 3) := by decide +kernel
theorem dX6_readSet_103 : decode cX6_readSet 103 = .ok (.aload_n 0, 1) := by decide +kernel
theorem dX6_readSet_104 : decode cX6_readSet 104 = .ok (.iconst 4, 1) := by decide +kernel
theorem dX6_readSet_105 : decode cX6_readSet 105 = .ok (.aload_n 0, 1) := by decide +kernel
theorem dX6_readSet_106 : decode cX6_readSet 106 = .ok (.getfield 37, 3) := by decide +kernel
theorem dX6_readSet_109 : decode cX6_readSet 109 = .ok (.invokevirtual 40, 3) := by decide +kernel
theorem dX6_readSet_112 : decode cX6_readSet 112 = .ok (.ireturn, 1) := by decide +kernel
theorem dX6_readSet_113 : decode cX6_readSet 113 = .ok (.aload_n 1, 1) := by decide +kernel
theorem dX6_readSet_114 : decode cX6_readSet 114 = .ok (.iload_n 2, 1) := by decide +kernel
theorem dX6_readSet_115 : decode cX6_readSet 115 = .ok (.invokevirtual 80, 3) := by decide +kernel
theorem dX6_readSet_118 : decode cX6_readSet 118 = .ok (.iconst 1, 1) := by decide +kernel
theorem dX6_readSet_119 : decode cX6_readSet 119 = .ok (.ireturn, 1) := by decide +kernel
theorem dX6_fails_0 : decode cX6_fails 0 = .ok (.aload_n 0, 1) := by decide +kernel
theorem dX6_fails_1 : decode cX6_fails 1 = .ok (.iload_n 1, 1) := by decide +kernel
theorem dX6_fails_2 : decode cX6_fails 2 = .ok (.putfield 22, 3) := by decide +kernel
theorem dX6_fails_5 : decode cX6_fails 5 = .ok (.aload_n 0, 1) := by decide +kernel
theorem dX6_fails_6 : decode cX6_fails 6 = .ok (.iload_n 2, 1) := by decide +kernel
theorem dX6_fails_7 : decode cX6_fails 7 = .ok (.putfield 15, 3) := by decide +kernel
theorem dX6_fails_10 : decode cX6_fails 10 = .ok (.iconst 0, 1) := by decide +kernel
theorem dX6_fails_11 : decode cX6_fails 11 = .ok (.ireturn, 1) := by decide +kernel
theorem dX6_advance_0 : decode cX6_advance 0 = .ok (.aload_n 0, 1) := by decide +kernel
theorem dX6_advance_1 : decode cX6_advance 1 = .ok (.aload_n 0, 1) := by decide +kernel
theorem dX6_advance_2 : decode cX6_advance 2 = .ok (.getfield 25, 3) := by decide +kernel
theorem dX6_advance_5 : decode cX6_advance 5 = .ok (.putfield 37, 3) := by decide +kernel
theorem dX6_advance_8 : decode cX6_advance 8 = .ok (.aload_n 0, 1) := by decide +kernel
theorem dX6_advance_9 : decode cX6_advance 9 = .ok (.getfield 37, 3) := by decide +kernel
theorem dX6_advance_12 : decode cX6_advance 12 = .ok (.aload_n 0, 1) := by decide +kernel
theorem dX6_advance_13 : decode cX6_advance 13 = .ok (.getfield 19, 3) := by decide +kernel
theorem dX6_advance_16 : decode cX6_advance 16 = .ok (.if_icmp .ge 31, 3) := by decide +kernel
theorem dX6_advance_19 : decode cX6_advance 19 = .ok (.aload_n 0, 1) := by decide +kernel
theorem dX6_advance_20 : decode cX6_advance 20 = .ok (.getfield 11, 3) := by decide +kernel
theorem dX6_advance_23 : decode cX6_advance 23 = .ok (.aload_n 0, 1) := by decide +kernel
theorem dX6_advance_24 : decode cX6_advance 24 = .ok (.getfield 37, 3) := by decide +kernel
theorem dX6_advance_27 : decode cX6_advance 27 = .ok (.baload, 1) := by decide +kernel
theorem dX6_advance_28 : decode cX6_advance 28 = .ok (.invokestatic 83, 3) := by decide +kernel
theorem dX6_advance_31 : decode cX6_advance 31 = .ok (.ifCond .eq 16, 3) := by decide +kernel
theorem dX6_advance_34 : decode cX6_advance 34 = .ok (.aload_n 0, 1) := by decide +kernel
theorem dX6_advance_35 : decode cX6_advance 35 = .ok (.dup, 1) := by decide +kernel
theorem dX6_advance_36 : decode cX6_advance 36 = .ok (.getfield 37, 3) := by decide +kernel
theorem dX6_advance_39 : decode cX6_advance 39 = .ok (.iconst 1, 1) := by decide +kernel
theorem dX6_advance_40 : decode cX6_advance 40 = .ok (.iadd, 1) := by decide +kernel
theorem dX6_advance_41 : decode cX6_advance 41 = .ok (.putfield 37, 3) := by decide +kernel
theorem dX6_advance_44 : decode cX6_advance 44 = .ok (.goto (-36), 3) := by decide +kernel
theorem dX6_advance_47 : decode cX6_advance 47 = .ok (.aload_n 0, 1) := by decide +kernel
theorem dX6_advance_48 : decode cX6_advance 48 = .ok (.aload_n 0, 1) := by decide +kernel
theorem dX6_advance_49 : decode cX6_advance 49 = .ok (.getfield 37, 3) := by decide +kernel
theorem dX6_advance_52 : decode cX6_advance 52 = .ok (.putfield 25, 3) := by decide +kernel
theorem dX6_advance_55 : decode cX6_advance 55 = .ok (.aload_n 0, 1) := by decide +kernel
theorem dX6_advance_56 : decode cX6_advance 56 = .ok (.aload_n 0, 1) := by decide +kernel
theorem dX6_advance_57 : decode cX6_advance 57 = .ok (.aload_n 0, 1) := by decide +kernel
theorem dX6_advance_58 : decode cX6_advance 58 = .ok (.getfield 37, 3) := by decide +kernel
theorem dX6_advance_61 : decode cX6_advance 61 = .ok (.invokevirtual 87, 3) := by decide +kernel
theorem dX6_advance_64 : decode cX6_advance 64 = .ok (.putfield 44, 3) := by decide +kernel
theorem dX6_advance_67 : decode cX6_advance 67 = .ok (.aload_n 0, 1) := by decide +kernel
theorem dX6_advance_68 : decode cX6_advance 68 = .ok (.getfield 44, 3) := by decide +kernel
theorem dX6_advance_71 : decode cX6_advance 71 = .ok (.iconst 3, 1) := by decide +kernel
theorem dX6_advance_72 : decode cX6_advance 72 = .ok (.if_icmp .ne 16, 3) := by decide +kernel
theorem dX6_advance_75 : decode cX6_advance 75 = .ok (.aload_n 0, 1) := by decide +kernel
theorem dX6_advance_76 : decode cX6_advance 76 = .ok (.dup, 1) := by decide +kernel
theorem dX6_advance_77 : decode cX6_advance 77 = .ok (.getfield 25, 3) := by decide +kernel
theorem dX6_advance_80 : decode cX6_advance 80 = .ok (.iconst 1, 1) := by decide +kernel
theorem dX6_advance_81 : decode cX6_advance 81 = .ok (.iadd, 1) := by decide +kernel
theorem dX6_advance_82 : decode cX6_advance 82 = .ok (.putfield 25, 3) := by decide +kernel
theorem dX6_advance_85 : decode cX6_advance 85 = .ok (.goto 49, 3) := by decide +kernel
theorem dX6_advance_88 : decode cX6_advance 88 = .ok (.aload_n 0, 1) := by decide +kernel
theorem dX6_advance_89 : decode cX6_advance 89 = .ok (.getfield 44, 3) := by decide +kernel
theorem dX6_advance_92 : decode cX6_advance 92 = .ok (.ifCond .eq 42, 3) := by decide +kernel
theorem dX6_advance_95 : decode cX6_advance 95 = .ok (.aload_n 0, 1) := by decide +kernel
theorem dX6_advance_96 : decode cX6_advance 96 = .ok (.getfield 25, 3) := by decide +kernel
theorem dX6_advance_99 : decode cX6_advance 99 = .ok (.aload_n 0, 1) := by decide +kernel
theorem dX6_advance_100 : decode cX6_advance 100 = .ok (.getfield 19, 3) := by decide +kernel
theorem dX6_advance_103 : decode cX6_advance 103 = .ok (.if_icmp .ge 31, 3) := by decide +kernel
theorem dX6_advance_106 : decode cX6_advance 106 = .ok (.aload_n 0, 1) := by decide +kernel
theorem dX6_advance_107 : decode cX6_advance 107 = .ok (.aload_n 0, 1) := by decide +kernel
theorem dX6_advance_108 : decode cX6_advance 108 = .ok (.getfield 25, 3) := by decide +kernel
theorem dX6_advance_111 : decode cX6_advance 111 = .ok (.invokevirtual 87, 3) := by decide +kernel
theorem dX6_advance_114 : decode cX6_advance 114 = .ok (.aload_n 0, 1) := by decide +kernel
theorem dX6_advance_115 : decode cX6_advance 115 = .ok (.getfield 44, 3) := by decide +kernel
theorem dX6_advance_118 : decode cX6_advance 118 = .ok (.if_icmp .ne 16, 3) := by decide +kernel
theorem dX6_advance_121 : decode cX6_advance 121 = .ok (.aload_n 0, 1) := by decide +kernel
theorem dX6_advance_122 : decode cX6_advance 122 = .ok (.dup, 1) := by decide +kernel
theorem dX6_advance_123 : decode cX6_advance 123 = .ok (.getfield 25, 3) := by decide +kernel
theorem dX6_advance_126 : decode cX6_advance 126 = .ok (.iconst 1, 1) := by decide +kernel
theorem dX6_advance_127 : decode cX6_advance 127 = .ok (.iadd, 1) := by decide +kernel
theorem dX6_advance_128 : decode cX6_advance 128 = .ok (.putfield 25, 3) := by decide +kernel
theorem dX6_advance_131 : decode cX6_advance 131 = .ok (.goto (-36), 3) := by decide +kernel
theorem dX6_advance_134 : decode cX6_advance 134 = .ok (.return_, 1) := by decide +kernel
theorem dX6_kindAt_0 : decode cX6_kindAt 0 = .ok (.iload_n 1, 1) := by decide +kernel
theorem dX6_kindAt_1 : decode cX6_kindAt 1 = .ok (.aload_n 0, 1) := by decide +kernel
theorem dX6_kindAt_2 : decode cX6_kindAt 2 = .ok (.getfield 19, 3) := by decide +kernel
theorem dX6_kindAt_5 : decode cX6_kindAt 5 = .ok (.if_icmp .lt 5, 3) := by decide +kernel
theorem dX6_kindAt_8 : decode cX6_kindAt 8 = .ok (.iconst 0, 1) := by decide +kernel
theorem dX6_kindAt_9 : decode cX6_kindAt 9 = .ok (.ireturn, 1) := by decide +kernel
theorem dX6_kindAt_10 : decode cX6_kindAt 10 = .ok (.aload_n 0, 1) := by decide +kernel
theorem dX6_kindAt_11 : decode cX6_kindAt 11 = .ok (.getfield 11, 3) := by decide +kernel
theorem dX6_kindAt_14 : decode cX6_kindAt 14 = .ok (.iload_n 1, 1) := by decide +kernel
theorem dX6_kindAt_15 : decode cX6_kindAt 15 = .ok (.baload, 1) := by decide +kernel
theorem dX6_kindAt_16 : decode cX6_kindAt 16 = .ok (.bipush 97, 2) := by decide +kernel
theorem dX6_kindAt_18 : decode cX6_kindAt 18 = .ok (.if_icmp .lt 16, 3) := by decide +kernel
theorem dX6_kindAt_21 : decode cX6_kindAt 21 = .ok (.aload_n 0, 1) := by decide +kernel
theorem dX6_kindAt_22 : decode cX6_kindAt 22 = .ok (.getfield 11, 3) := by decide +kernel
theorem dX6_kindAt_25 : decode cX6_kindAt 25 = .ok (.iload_n 1, 1) := by decide +kernel
theorem dX6_kindAt_26 : decode cX6_kindAt 26 = .ok (.baload, 1) := by decide +kernel
theorem dX6_kindAt_27 : decode cX6_kindAt 27 = .ok (.bipush 122, 2) := by decide +kernel
theorem dX6_kindAt_29 : decode cX6_kindAt 29 = .ok (.if_icmp .gt 5, 3) := by decide +kernel
theorem dX6_kindAt_32 : decode cX6_kindAt 32 = .ok (.iconst 1, 1) := by decide +kernel
theorem dX6_kindAt_33 : decode cX6_kindAt 33 = .ok (.ireturn, 1) := by decide +kernel
theorem dX6_kindAt_34 : decode cX6_kindAt 34 = .ok (.aload_n 0, 1) := by decide +kernel
theorem dX6_kindAt_35 : decode cX6_kindAt 35 = .ok (.getfield 11, 3) := by decide +kernel
theorem dX6_kindAt_38 : decode cX6_kindAt 38 = .ok (.iload_n 1, 1) := by decide +kernel
theorem dX6_kindAt_39 : decode cX6_kindAt 39 = .ok (.baload, 1) := by decide +kernel
theorem dX6_kindAt_40 : decode cX6_kindAt 40 = .ok (.bipush 48, 2) := by decide +kernel
theorem dX6_kindAt_42 : decode cX6_kindAt 42 = .ok (.if_icmp .lt 18, 3) := by decide +kernel
theorem dX6_kindAt_45 : decode cX6_kindAt 45 = .ok (.aload_n 0, 1) := by decide +kernel
theorem dX6_kindAt_46 : decode cX6_kindAt 46 = .ok (.getfield 11, 3) := by decide +kernel
theorem dX6_kindAt_49 : decode cX6_kindAt 49 = .ok (.iload_n 1, 1) := by decide +kernel
theorem dX6_kindAt_50 : decode cX6_kindAt 50 = .ok (.baload, 1) := by decide +kernel
theorem dX6_kindAt_51 : decode cX6_kindAt 51 = .ok (.bipush 57, 2) := by decide +kernel
theorem dX6_kindAt_53 : decode cX6_kindAt 53 = .ok (.if_icmp .gt 7, 3) := by decide +kernel
theorem dX6_kindAt_56 : decode cX6_kindAt 56 = .ok (.iconst 2, 1) := by decide +kernel
theorem dX6_kindAt_57 : decode cX6_kindAt 57 = .ok (.goto 4, 3) := by decide +kernel
theorem dX6_kindAt_60 : decode cX6_kindAt 60 = .ok (.iconst 3, 1) := by decide +kernel
theorem dX6_kindAt_61 : decode cX6_kindAt 61 = .ok (.ireturn, 1) := by decide +kernel
theorem dX6_isBlank_0 : decode cX6_isBlank 0 = .ok (.iload_n 0, 1) := by decide +kernel
theorem dX6_isBlank_1 : decode cX6_isBlank 1 = .ok (.bipush 32, 2) := by decide +kernel
theorem dX6_isBlank_3 : decode cX6_isBlank 3 = .ok (.if_icmp .eq 9, 3) := by decide +kernel
theorem dX6_isBlank_6 : decode cX6_isBlank 6 = .ok (.iload_n 0, 1) := by decide +kernel
theorem dX6_isBlank_7 : decode cX6_isBlank 7 = .ok (.bipush 10, 2) := by decide +kernel
theorem dX6_isBlank_9 : decode cX6_isBlank 9 = .ok (.if_icmp .ne 7, 3) := by decide +kernel
theorem dX6_isBlank_12 : decode cX6_isBlank 12 = .ok (.iconst 1, 1) := by decide +kernel
theorem dX6_isBlank_13 : decode cX6_isBlank 13 = .ok (.goto 4, 3) := by decide +kernel
theorem dX6_isBlank_16 : decode cX6_isBlank 16 = .ok (.iconst 0, 1) := by decide +kernel
theorem dX6_isBlank_17 : decode cX6_isBlank 17 = .ok (.ireturn, 1) := by decide +kernel
theorem dX6_isSign_0 : decode cX6_isSign 0 = .ok (.aload_n 0, 1) := by decide +kernel
theorem dX6_isSign_1 : decode cX6_isSign 1 = .ok (.getfield 44, 3) := by decide +kernel
theorem dX6_isSign_4 : decode cX6_isSign 4 = .ok (.iconst 3, 1) := by decide +kernel
theorem dX6_isSign_5 : decode cX6_isSign 5 = .ok (.if_icmp .ne 20, 3) := by decide +kernel
theorem dX6_isSign_8 : decode cX6_isSign 8 = .ok (.aload_n 0, 1) := by decide +kernel
theorem dX6_isSign_9 : decode cX6_isSign 9 = .ok (.getfield 11, 3) := by decide +kernel
theorem dX6_isSign_12 : decode cX6_isSign 12 = .ok (.aload_n 0, 1) := by decide +kernel
theorem dX6_isSign_13 : decode cX6_isSign 13 = .ok (.getfield 37, 3) := by decide +kernel
theorem dX6_isSign_16 : decode cX6_isSign 16 = .ok (.baload, 1) := by decide +kernel
theorem dX6_isSign_17 : decode cX6_isSign 17 = .ok (.iload_n 1, 1) := by decide +kernel
theorem dX6_isSign_18 : decode cX6_isSign 18 = .ok (.if_icmp .ne 7, 3) := by decide +kernel
theorem dX6_isSign_21 : decode cX6_isSign 21 = .ok (.iconst 1, 1) := by decide +kernel
theorem dX6_isSign_22 : decode cX6_isSign 22 = .ok (.goto 4, 3) := by decide +kernel
theorem dX6_isSign_25 : decode cX6_isSign 25 = .ok (.iconst 0, 1) := by decide +kernel
theorem dX6_isSign_26 : decode cX6_isSign 26 = .ok (.ireturn, 1) := by decide +kernel
theorem dX6_isWord_0 : decode cX6_isWord 0 = .ok (.aload_n 0, 1) := by decide +kernel
theorem dX6_isWord_1 : decode cX6_isWord 1 = .ok (.getfield 44, 3) := by decide +kernel
theorem dX6_isWord_4 : decode cX6_isWord 4 = .ok (.iconst 1, 1) := by decide +kernel
theorem dX6_isWord_5 : decode cX6_isWord 5 = .ok (.if_icmp .ne 19, 3) := by decide +kernel
theorem dX6_isWord_8 : decode cX6_isWord 8 = .ok (.aload_n 0, 1) := by decide +kernel
theorem dX6_isWord_9 : decode cX6_isWord 9 = .ok (.getfield 25, 3) := by decide +kernel
theorem dX6_isWord_12 : decode cX6_isWord 12 = .ok (.aload_n 0, 1) := by decide +kernel
theorem dX6_isWord_13 : decode cX6_isWord 13 = .ok (.getfield 37, 3) := by decide +kernel
theorem dX6_isWord_16 : decode cX6_isWord 16 = .ok (.isub, 1) := by decide +kernel
theorem dX6_isWord_17 : decode cX6_isWord 17 = .ok (.aload_n 1, 1) := by decide +kernel
theorem dX6_isWord_18 : decode cX6_isWord 18 = .ok (.invokevirtual 91, 3) := by decide +kernel
theorem dX6_isWord_21 : decode cX6_isWord 21 = .ok (.if_icmp .eq 5, 3) := by decide +kernel
theorem dX6_isWord_24 : decode cX6_isWord 24 = .ok (.iconst 0, 1) := by decide +kernel
theorem dX6_isWord_25 : decode cX6_isWord 25 = .ok (.ireturn, 1) := by decide +kernel
theorem dX6_isWord_26 : decode cX6_isWord 26 = .ok (.iconst 0, 1) := by decide +kernel
theorem dX6_isWord_27 : decode cX6_isWord 27 = .ok (.istore_n 2, 1) := by decide +kernel
theorem dX6_isWord_28 : decode cX6_isWord 28 = .ok (.iload_n 2, 1) := by decide +kernel
theorem dX6_isWord_29 : decode cX6_isWord 29 = .ok (.aload_n 1, 1) := by decide +kernel
theorem dX6_isWord_30 : decode cX6_isWord 30 = .ok (.invokevirtual 91, 3) := by decide +kernel
theorem dX6_isWord_33 : decode cX6_isWord 33 = .ok (.if_icmp .ge 30, 3) := by decide +kernel
theorem dX6_isWord_36 : decode cX6_isWord 36 = .ok (.aload_n 0, 1) := by decide +kernel
theorem dX6_isWord_37 : decode cX6_isWord 37 = .ok (.getfield 11, 3) := by decide +kernel
theorem dX6_isWord_40 : decode cX6_isWord 40 = .ok (.aload_n 0, 1) := by decide +kernel
theorem dX6_isWord_41 : decode cX6_isWord 41 = .ok (.getfield 37, 3) := by decide +kernel
theorem dX6_isWord_44 : decode cX6_isWord 44 = .ok (.iload_n 2, 1) := by decide +kernel
theorem dX6_isWord_45 : decode cX6_isWord 45 = .ok (.iadd, 1) := by decide +kernel
theorem dX6_isWord_46 : decode cX6_isWord 46 = .ok (.baload, 1) := by decide +kernel
theorem dX6_isWord_47 : decode cX6_isWord 47 = .ok (.aload_n 1, 1) := by decide +kernel
theorem dX6_isWord_48 : decode cX6_isWord 48 = .ok (.iload_n 2, 1) := by decide +kernel
theorem dX6_isWord_49 : decode cX6_isWord 49 = .ok (.invokevirtual 95, 3) := by decide +kernel
theorem dX6_isWord_52 : decode cX6_isWord 52 = .ok (.if_icmp .eq 5, 3) := by decide +kernel
theorem dX6_isWord_55 : decode cX6_isWord 55 = .ok (.iconst 0, 1) := by decide +kernel
theorem dX6_isWord_56 : decode cX6_isWord 56 = .ok (.ireturn, 1) := by decide +kernel
theorem dX6_isWord_57 : decode cX6_isWord 57 = .ok (.iinc 2 1, 3) := by decide +kernel
theorem dX6_isWord_60 : decode cX6_isWord 60 = .ok (.goto (-32), 3) := by decide +kernel
theorem dX6_isWord_63 : decode cX6_isWord 63 = .ok (.iconst 1, 1) := by decide +kernel
theorem dX6_isWord_64 : decode cX6_isWord 64 = .ok (.ireturn, 1) := by decide +kernel
theorem dX6_number_0 : decode cX6_number 0 = .ok (.iconst 0, 1) := by decide +kernel
theorem dX6_number_1 : decode cX6_number 1 = .ok (.istore_n 1, 1) := by decide +kernel
theorem dX6_number_2 : decode cX6_number 2 = .ok (.aload_n 0, 1) := by decide +kernel
theorem dX6_number_3 : decode cX6_number 3 = .ok (.getfield 37, 3) := by decide +kernel
theorem dX6_number_6 : decode cX6_number 6 = .ok (.istore_n 2, 1) := by decide +kernel
theorem dX6_number_7 : decode cX6_number 7 = .ok (.iload_n 2, 1) := by decide +kernel
theorem dX6_number_8 : decode cX6_number 8 = .ok (.aload_n 0, 1) := by decide +kernel
theorem dX6_number_9 : decode cX6_number 9 = .ok (.getfield 25, 3) := by decide +kernel
theorem dX6_number_12 : decode cX6_number 12 = .ok (.if_icmp .ge 30, 3) := by decide +kernel
theorem dX6_number_15 : decode cX6_number 15 = .ok (.sipush 1000, 3) := by decide +kernel
theorem dX6_number_18 : decode cX6_number 18 = .ok (.iload_n 1, 1) := by decide +kernel
theorem dX6_number_19 : decode cX6_number 19 = .ok (.bipush 10, 2) := by decide +kernel
theorem dX6_number_21 : decode cX6_number 21 = .ok (.imul, 1) := by decide +kernel
theorem dX6_number_22 : decode cX6_number 22 = .ok (.aload_n 0, 1) := by decide +kernel
theorem dX6_number_23 : decode cX6_number 23 = .ok (.getfield 11, 3) := by decide +kernel
theorem dX6_number_26 : decode cX6_number 26 = .ok (.iload_n 2, 1) := by decide +kernel
theorem dX6_number_27 : decode cX6_number 27 = .ok (.baload, 1) := by decide +kernel
theorem dX6_number_28 : decode cX6_number 28 = .ok (.iadd, 1) := by decide +kernel
theorem dX6_number_29 : decode cX6_number 29 = .ok (.bipush 48, 2) := by decide +kernel
theorem dX6_number_31 : decode cX6_number 31 = .ok (.isub, 1) := by decide +kernel
theorem dX6_number_32 : decode cX6_number 32 = .ok (.invokestatic 99, 3) := by decide +kernel
theorem dX6_number_35 : decode cX6_number 35 = .ok (.istore_n 1, 1) := by decide +kernel
theorem dX6_number_36 : decode cX6_number 36 = .ok (.iinc 2 1, 3) := by decide +kernel
theorem dX6_number_39 : decode cX6_number 39 = .ok (.goto (-32), 3) := by decide +kernel
theorem dX6_number_42 : decode cX6_number 42 = .ok (.iload_n 1, 1) := by decide +kernel
theorem dX6_number_43 : decode cX6_number 43 = .ok (.ireturn, 1) := by decide +kernel
theorem dX7_init_0 : decode cX7_init 0 = .ok (.aload_n 0, 1) := by decide +kernel
theorem dX7_init_1 : decode cX7_init 1 = .ok (.invokespecial 3, 3) := by decide +kernel
theorem dX7_init_4 : decode cX7_init 4 = .ok (.aload_n 0, 1) := by decide +kernel
theorem dX7_init_5 : decode cX7_init 5 = .ok (.sipush 640, 3) := by decide +kernel
theorem dX7_init_8 : decode cX7_init 8 = .ok (.newarray .byte, 2) := by decide +kernel
theorem dX7_init_10 : decode cX7_init 10 = .ok (.putfield 11, 3) := by decide +kernel
theorem dX7_init_13 : decode cX7_init 13 = .ok (.return_, 1) := by decide +kernel
theorem dX7_byteAt_0 : decode cX7_byteAt 0 = .ok (.iload_n 1, 1) := by decide +kernel
theorem dX7_byteAt_1 : decode cX7_byteAt 1 = .ok (.ifCond .lt 20, 3) := by decide +kernel
theorem dX7_byteAt_4 : decode cX7_byteAt 4 = .ok (.iload_n 1, 1) := by decide +kernel
theorem dX7_byteAt_5 : decode cX7_byteAt 5 = .ok (.aload_n 0, 1) := by decide +kernel
theorem dX7_byteAt_6 : decode cX7_byteAt 6 = .ok (.getfield 15, 3) := by decide +kernel
theorem dX7_byteAt_9 : decode cX7_byteAt 9 = .ok (.if_icmp .ge 12, 3) := by decide +kernel
theorem dX7_byteAt_12 : decode cX7_byteAt 12 = .ok (.aload_n 0, 1) := by decide +kernel
theorem dX7_byteAt_13 : decode cX7_byteAt 13 = .ok (.getfield 11, 3) := by decide +kernel
theorem dX7_byteAt_16 : decode cX7_byteAt 16 = .ok (.iload_n 1, 1) := by decide +kernel
theorem dX7_byteAt_17 : decode cX7_byteAt 17 = .ok (.baload, 1) := by decide +kernel
theorem dX7_byteAt_18 : decode cX7_byteAt 18 = .ok (.goto 4, 3) := by decide +kernel
theorem dX7_byteAt_21 : decode cX7_byteAt 21 = .ok (.iconst (-1), 1) := by decide +kernel
theorem dX7_byteAt_22 : decode cX7_byteAt 22 = .ok (.ireturn, 1) := by decide +kernel
theorem dX7_write_0 : decode cX7_write 0 = .ok (.aload_n 0, 1) := by decide +kernel
theorem dX7_write_1 : decode cX7_write 1 = .ok (.iconst 0, 1) := by decide +kernel
theorem dX7_write_2 : decode cX7_write 2 = .ok (.putfield 15, 3) := by decide +kernel
theorem dX7_write_5 : decode cX7_write 5 = .ok (.aload_n 0, 1) := by decide +kernel
theorem dX7_write_6 : decode cX7_write 6 = .ok (.ldc 19, 2) := by decide +kernel
theorem dX7_write_8 : decode cX7_write 8 = .ok (.invokevirtual 21, 3) := by decide +kernel
theorem dX7_write_11 : decode cX7_write 11 = .ok (.aload_n 0, 1) := by decide +kernel
theorem dX7_write_12 : decode cX7_write 12 = .ok (.bipush 48, 2) := by decide +kernel
theorem dX7_write_14 : decode cX7_write 14 = .ok (.aload_n 1, 1) := by decide +kernel
theorem dX7_write_15 : decode cX7_write 15 = .ok (.getfield 25, 3) := by decide +kernel
theorem dX7_write_18 : decode cX7_write 18 = .ok (.iadd, 1) := by decide +kernel
theorem dX7_write_19 : decode cX7_write 19 = .ok (.i2c, 1) := by decide +kernel
theorem dX7_write_20 : decode cX7_write 20 = .ok (.invokevirtual 30, 3) := by decide +kernel
theorem dX7_write_23 : decode cX7_write 23 = .ok (.iconst 1, 1) := by decide +kernel
theorem dX7_write_24 : decode cX7_write 24 = .ok (.istore_n 2, 1) := by decide +kernel
theorem dX7_write_25 : decode cX7_write 25 = .ok (.iconst 0, 1) := by decide +kernel
theorem dX7_write_26 : decode cX7_write 26 = .ok (.istore_n 3, 1) := by decide +kernel
theorem dX7_write_27 : decode cX7_write 27 = .ok (.iload_n 3, 1) := by decide +kernel
theorem dX7_write_28 : decode cX7_write 28 = .ok (.aload_n 1, 1) := by decide +kernel
theorem dX7_write_29 : decode cX7_write 29 = .ok (.invokevirtual 34, 3) := by decide +kernel
theorem dX7_write_32 : decode cX7_write 32 = .ok (.if_icmp .ge 39, 3) := by decide +kernel
theorem dX7_write_35 : decode cX7_write 35 = .ok (.aload_n 1, 1) := by decide +kernel
theorem dX7_write_36 : decode cX7_write 36 = .ok (.iload_n 3, 1) := by decide +kernel
theorem dX7_write_37 : decode cX7_write 37 = .ok (.invokevirtual 38, 3) := by decide +kernel
theorem dX7_write_40 : decode cX7_write 40 = .ok (.ifCond .eq 25, 3) := by decide +kernel
theorem dX7_write_43 : decode cX7_write 43 = .ok (.aload_n 0, 1) := by decide +kernel
theorem dX7_write_44 : decode cX7_write 44 = .ok (.iload_n 2, 1) := by decide +kernel
theorem dX7_write_45 : decode cX7_write 45 = .ok (.ifCond .eq 8, 3) := by decide +kernel
theorem dX7_write_48 : decode cX7_write 48 = .ok (.bipush 58, 2) := by decide +kernel
theorem dX7_write_50 : decode cX7_write 50 = .ok (.goto 5, 3) := by decide +kernel
theorem dX7_write_53 : decode cX7_write 53 = .ok (.bipush 44, 2) := by decide +kernel
theorem dX7_write_55 : decode cX7_write 55 = .ok (.invokevirtual 30, 3) := by decide +kernel
theorem dX7_write_58 : decode cX7_write 58 = .ok (.aload_n 0, 1) := by decide +kernel
theorem dX7_write_59 : decode cX7_write 59 = .ok (.iload_n 3, 1) := by decide +kernel
theorem dX7_write_60 : decode cX7_write 60 = .ok (.invokevirtual 42, 3) := by decide +kernel
theorem dX7_write_63 : decode cX7_write 63 = .ok (.iconst 0, 1) := by decide +kernel
theorem dX7_write_64 : decode cX7_write 64 = .ok (.istore_n 2, 1) := by decide +kernel
theorem dX7_write_65 : decode cX7_write 65 = .ok (.iinc 3 1, 3) := by decide +kernel
theorem dX7_write_68 : decode cX7_write 68 = .ok (.goto (-41), 3) := by decide +kernel
theorem dX7_write_71 : decode cX7_write 71 = .ok (.aload_n 0, 1) := by decide +kernel
theorem dX7_write_72 : decode cX7_write 72 = .ok (.bipush 59, 2) := by decide +kernel
theorem dX7_write_74 : decode cX7_write 74 = .ok (.invokevirtual 30, 3) := by decide +kernel
theorem dX7_write_77 : decode cX7_write 77 = .ok (.return_, 1) := by decide +kernel
theorem dX7_points_0 : decode cX7_points 0 = .ok (.iload_n 1, 1) := by decide +kernel
theorem dX7_points_1 : decode cX7_points 1 = .ok (.ifCond .ne 9, 3) := by decide +kernel
theorem dX7_points_4 : decode cX7_points 4 = .ok (.aload_n 0, 1) := by decide +kernel
theorem dX7_points_5 : decode cX7_points 5 = .ok (.ldc 45, 2) := by decide +kernel
theorem dX7_points_7 : decode cX7_points 7 = .ok (.invokevirtual 21, 3) := by decide +kernel
theorem dX7_points_10 : decode cX7_points 10 = .ok (.iconst 0, 1) := by decide +kernel
theorem dX7_points_11 : decode cX7_points 11 = .ok (.istore_n 2, 1) := by decide +kernel
theorem dX7_points_12 : decode cX7_points 12 = .ok (.iload_n 2, 1) := by decide +kernel
theorem dX7_points_13 : decode cX7_points 13 = .ok (.bipush 7, 2) := by decide +kernel
theorem dX7_points_15 : decode cX7_points 15 = .ok (.if_icmp .ge 27, 3) := by decide +kernel
theorem dX7_points_18 : decode cX7_points 18 = .ok (.iload_n 1, 1) := by decide +kernel
theorem dX7_points_19 : decode cX7_points 19 = .ok (.iload_n 2, 1) := by decide +kernel
theorem dX7_points_20 : decode cX7_points 20 = .ok (.ishr, 1) := by decide +kernel
theorem dX7_points_21 : decode cX7_points 21 = .ok (.iconst 1, 1) := by decide +kernel
theorem dX7_points_22 : decode cX7_points 22 = .ok (.iand, 1) := by decide +kernel
theorem dX7_points_23 : decode cX7_points 23 = .ok (.iconst 1, 1) := by decide +kernel
theorem dX7_points_24 : decode cX7_points 24 = .ok (.if_icmp .ne 12, 3) := by decide +kernel
theorem dX7_points_27 : decode cX7_points 27 = .ok (.aload_n 0, 1) := by decide +kernel
theorem dX7_points_28 : decode cX7_points 28 = .ok (.bipush 48, 2) := by decide +kernel
theorem dX7_points_30 : decode cX7_points 30 = .ok (.iload_n 2, 1) := by decide +kernel
theorem dX7_points_31 : decode cX7_points 31 = .ok (.iadd, 1) := by decide +kernel
theorem dX7_points_32 : decode cX7_points 32 = .ok (.i2c, 1) := by decide +kernel
theorem dX7_points_33 : decode cX7_points 33 = .ok (.invokevirtual 30, 3) := by decide +kernel
theorem dX7_points_36 : decode cX7_points 36 = .ok (.iinc 2 1, 3) := by decide +kernel
theorem dX7_points_39 : decode cX7_points 39 = .ok (.goto (-27), 3) := by decide +kernel
theorem dX7_points_42 : decode cX7_points 42 = .ok (.return_, 1) := by decide +kernel
theorem dX7_word_0 : decode cX7_word 0 = .ok (.iconst 0, 1) := by decide +kernel
theorem dX7_word_1 : decode cX7_word 1 = .ok (.istore_n 2, 1) := by decide +kernel
theorem dX7_word_2 : decode cX7_word 2 = .ok (.iload_n 2, 1) := by decide +kernel
theorem dX7_word_3 : decode cX7_word 3 = .ok (.aload_n 1, 1) := by decide +kernel
theorem dX7_word_4 : decode cX7_word 4 = .ok (.invokevirtual 47, 3) := by decide +kernel
theorem dX7_word_7 : decode cX7_word 7 = .ok (.if_icmp .ge 18, 3) := by decide +kernel
theorem dX7_word_10 : decode cX7_word 10 = .ok (.aload_n 0, 1) := by decide +kernel
theorem dX7_word_11 : decode cX7_word 11 = .ok (.aload_n 1, 1) := by decide +kernel
theorem dX7_word_12 : decode cX7_word 12 = .ok (.iload_n 2, 1) := by decide +kernel
theorem dX7_word_13 : decode cX7_word 13 = .ok (.invokevirtual 51, 3) := by decide +kernel
theorem dX7_word_16 : decode cX7_word 16 = .ok (.invokevirtual 30, 3) := by decide +kernel
theorem dX7_word_19 : decode cX7_word 19 = .ok (.iinc 2 1, 3) := by decide +kernel
theorem dX7_word_22 : decode cX7_word 22 = .ok (.goto (-20), 3) := by decide +kernel
theorem dX7_word_25 : decode cX7_word 25 = .ok (.return_, 1) := by decide +kernel
theorem dX7_sign_0 : decode cX7_sign 0 = .ok (.aload_n 0, 1) := by decide +kernel
theorem dX7_sign_1 : decode cX7_sign 1 = .ok (.getfield 15, 3) := by decide +kernel
theorem dX7_sign_4 : decode cX7_sign 4 = .ok (.sipush 640, 3) := by decide +kernel
theorem dX7_sign_7 : decode cX7_sign 7 = .ok (.if_icmp .ge 24, 3) := by decide +kernel
theorem dX7_sign_10 : decode cX7_sign 10 = .ok (.aload_n 0, 1) := by decide +kernel
theorem dX7_sign_11 : decode cX7_sign 11 = .ok (.getfield 11, 3) := by decide +kernel
theorem dX7_sign_14 : decode cX7_sign 14 = .ok (.aload_n 0, 1) := by decide +kernel
theorem dX7_sign_15 : decode cX7_sign 15 = .ok (.getfield 15, 3) := by decide +kernel
theorem dX7_sign_18 : decode cX7_sign 18 = .ok (.iload_n 1, 1) := by decide +kernel
theorem dX7_sign_19 : decode cX7_sign 19 = .ok (.i2b, 1) := by decide +kernel
theorem dX7_sign_20 : decode cX7_sign 20 = .ok (.bastore, 1) := by decide +kernel
theorem dX7_sign_21 : decode cX7_sign 21 = .ok (.aload_n 0, 1) := by decide +kernel
theorem dX7_sign_22 : decode cX7_sign 22 = .ok (.dup, 1) := by decide +kernel
theorem dX7_sign_23 : decode cX7_sign 23 = .ok (.getfield 15, 3) := by decide +kernel
theorem dX7_sign_26 : decode cX7_sign 26 = .ok (.iconst 1, 1) := by decide +kernel
theorem dX7_sign_27 : decode cX7_sign 27 = .ok (.iadd, 1) := by decide +kernel
theorem dX7_sign_28 : decode cX7_sign 28 = .ok (.putfield 15, 3) := by decide +kernel
theorem dX7_sign_31 : decode cX7_sign 31 = .ok (.return_, 1) := by decide +kernel
theorem dX8_init_0 : decode cX8_init 0 = .ok (.aload_n 0, 1) := by decide +kernel
theorem dX8_init_1 : decode cX8_init 1 = .ok (.invokespecial 1, 3) := by decide +kernel
theorem dX8_init_4 : decode cX8_init 4 = .ok (.aload_n 0, 1) := by decide +kernel
theorem dX8_init_5 : decode cX8_init 5 = .ok (.iconst 3, 1) := by decide +kernel
theorem dX8_init_6 : decode cX8_init 6 = .ok (.anewarray 9, 3) := by decide +kernel
theorem dX8_init_9 : decode cX8_init 9 = .ok (.putfield 11, 3) := by decide +kernel
theorem dX8_init_12 : decode cX8_init 12 = .ok (.aload_n 0, 1) := by decide +kernel
theorem dX8_init_13 : decode cX8_init 13 = .ok (.new 9, 3) := by decide +kernel
theorem dX8_init_16 : decode cX8_init 16 = .ok (.dup, 1) := by decide +kernel
theorem dX8_init_17 : decode cX8_init 17 = .ok (.invokespecial 15, 3) := by decide +kernel
theorem dX8_init_20 : decode cX8_init 20 = .ok (.putfield 16, 3) := by decide +kernel
theorem dX8_init_23 : decode cX8_init 23 = .ok (.aload_n 0, 1) := by decide +kernel
theorem dX8_init_24 : decode cX8_init 24 = .ok (.new 9, 3) := by decide +kernel
theorem dX8_init_27 : decode cX8_init 27 = .ok (.dup, 1) := by decide +kernel
theorem dX8_init_28 : decode cX8_init 28 = .ok (.invokespecial 15, 3) := by decide +kernel
theorem dX8_init_31 : decode cX8_init 31 = .ok (.putfield 20, 3) := by decide +kernel
theorem dX8_init_34 : decode cX8_init 34 = .ok (.aload_n 0, 1) := by decide +kernel
theorem dX8_init_35 : decode cX8_init 35 = .ok (.new 9, 3) := by decide +kernel
theorem dX8_init_38 : decode cX8_init 38 = .ok (.dup, 1) := by decide +kernel
theorem dX8_init_39 : decode cX8_init 39 = .ok (.invokespecial 15, 3) := by decide +kernel
theorem dX8_init_42 : decode cX8_init 42 = .ok (.putfield 23, 3) := by decide +kernel
theorem dX8_init_45 : decode cX8_init 45 = .ok (.aload_n 0, 1) := by decide +kernel
theorem dX8_init_46 : decode cX8_init 46 = .ok (.bipush 7, 2) := by decide +kernel
theorem dX8_init_48 : decode cX8_init 48 = .ok (.newarray .int, 2) := by decide +kernel
theorem dX8_init_50 : decode cX8_init 50 = .ok (.putfield 26, 3) := by decide +kernel
theorem dX8_init_53 : decode cX8_init 53 = .ok (.aload_n 0, 1) := by decide +kernel
theorem dX8_init_54 : decode cX8_init 54 = .ok (.new 30, 3) := by decide +kernel
theorem dX8_init_57 : decode cX8_init 57 = .ok (.dup, 1) := by decide +kernel
theorem dX8_init_58 : decode cX8_init 58 = .ok (.invokespecial 32, 3) := by decide +kernel
theorem dX8_init_61 : decode cX8_init 61 = .ok (.putfield 33, 3) := by decide +kernel
theorem dX8_init_64 : decode cX8_init 64 = .ok (.aload_n 0, 1) := by decide +kernel
theorem dX8_init_65 : decode cX8_init 65 = .ok (.new 37, 3) := by decide +kernel
theorem dX8_init_68 : decode cX8_init 68 = .ok (.dup, 1) := by decide +kernel
theorem dX8_init_69 : decode cX8_init 69 = .ok (.invokespecial 39, 3) := by decide +kernel
theorem dX8_init_72 : decode cX8_init 72 = .ok (.putfield 40, 3) := by decide +kernel
theorem dX8_init_75 : decode cX8_init 75 = .ok (.aload_n 0, 1) := by decide +kernel
theorem dX8_init_76 : decode cX8_init 76 = .ok (.new 44, 3) := by decide +kernel
theorem dX8_init_79 : decode cX8_init 79 = .ok (.dup, 1) := by decide +kernel
theorem dX8_init_80 : decode cX8_init 80 = .ok (.invokespecial 46, 3) := by decide +kernel
theorem dX8_init_83 : decode cX8_init 83 = .ok (.putfield 47, 3) := by decide +kernel
theorem dX8_init_86 : decode cX8_init 86 = .ok (.aload_n 0, 1) := by decide +kernel
theorem dX8_init_87 : decode cX8_init 87 = .ok (.new 51, 3) := by decide +kernel
theorem dX8_init_90 : decode cX8_init 90 = .ok (.dup, 1) := by decide +kernel
theorem dX8_init_91 : decode cX8_init 91 = .ok (.invokespecial 53, 3) := by decide +kernel
theorem dX8_init_94 : decode cX8_init 94 = .ok (.putfield 54, 3) := by decide +kernel
theorem dX8_init_97 : decode cX8_init 97 = .ok (.aload_n 0, 1) := by decide +kernel
theorem dX8_init_98 : decode cX8_init 98 = .ok (.new 58, 3) := by decide +kernel
theorem dX8_init_101 : decode cX8_init 101 = .ok (.dup, 1) := by decide +kernel
theorem dX8_init_102 : decode cX8_init 102 = .ok (.invokespecial 60, 3) := by decide +kernel
theorem dX8_init_105 : decode cX8_init 105 = .ok (.putfield 61, 3) := by decide +kernel
theorem dX8_init_108 : decode cX8_init 108 = .ok (.iconst 0, 1) := by decide +kernel
theorem dX8_init_109 : decode cX8_init 109 = .ok (.istore_n 1, 1) := by decide +kernel
theorem dX8_init_110 : decode cX8_init 110 = .ok (.iload_n 1, 1) := by decide +kernel
theorem dX8_init_111 : decode cX8_init 111 = .ok (.iconst 3, 1) := by decide +kernel
theorem dX8_init_112 : decode cX8_init 112 = .ok (.if_icmp .ge 22, 3) := by decide +kernel
theorem dX8_init_115 : decode cX8_init 115 = .ok (.aload_n 0, 1) := by decide +kernel
theorem dX8_init_116 : decode cX8_init 116 = .ok (.getfield 11, 3) := by decide +kernel
theorem dX8_init_119 : decode cX8_init 119 = .ok (.iload_n 1, 1) := by decide +kernel
theorem dX8_init_120 : decode cX8_init 120 = .ok (.new 9, 3) := by decide +kernel
theorem dX8_init_123 : decode cX8_init 123 = .ok (.dup, 1) := by decide +kernel
theorem dX8_init_124 : decode cX8_init 124 = .ok (.invokespecial 15, 3) := by decide +kernel
theorem dX8_init_127 : decode cX8_init 127 = .ok (.aastore, 1) := by decide +kernel
theorem dX8_init_128 : decode cX8_init 128 = .ok (.iinc 1 1, 3) := by decide +kernel
theorem dX8_init_131 : decode cX8_init 131 = .ok (.goto (-21), 3) := by decide +kernel
theorem dX8_init_134 : decode cX8_init 134 = .ok (.return_, 1) := by decide +kernel
theorem dX8_feed_0 : decode cX8_feed 0 = .ok (.aload_n 0, 1) := by decide +kernel
theorem dX8_feed_1 : decode cX8_feed 1 = .ok (.getfield 33, 3) := by decide +kernel
theorem dX8_feed_4 : decode cX8_feed 4 = .ok (.bipush 20, 2) := by decide +kernel
theorem dX8_feed_6 : decode cX8_feed 6 = .ok (.invokevirtual 65, 3) := by decide +kernel
theorem dX8_feed_9 : decode cX8_feed 9 = .ok (.ifCond .ne 5, 3) := by decide +kernel
theorem dX8_feed_12 : decode cX8_feed 12 = .ok (.iconst (-1), 1) := by decide +kernel
theorem dX8_feed_13 : decode cX8_feed 13 = .ok (.ireturn, 1) := by decide +kernel
theorem dX8_feed_14 : decode cX8_feed 14 = .ok (.aload_n 0, 1) := by decide +kernel
theorem dX8_feed_15 : decode cX8_feed 15 = .ok (.getfield 33, 3) := by decide +kernel
theorem dX8_feed_18 : decode cX8_feed 18 = .ok (.iload_n 1, 1) := by decide +kernel
theorem dX8_feed_19 : decode cX8_feed 19 = .ok (.invokevirtual 69, 3) := by decide +kernel
theorem dX8_feed_22 : decode cX8_feed 22 = .ok (.aload_n 0, 1) := by decide +kernel
theorem dX8_feed_23 : decode cX8_feed 23 = .ok (.getfield 33, 3) := by decide +kernel
theorem dX8_feed_26 : decode cX8_feed 26 = .ok (.iload_n 2, 1) := by decide +kernel
theorem dX8_feed_27 : decode cX8_feed 27 = .ok (.invokevirtual 69, 3) := by decide +kernel
theorem dX8_feed_30 : decode cX8_feed 30 = .ok (.aload_n 0, 1) := by decide +kernel
theorem dX8_feed_31 : decode cX8_feed 31 = .ok (.getfield 33, 3) := by decide +kernel
theorem dX8_feed_34 : decode cX8_feed 34 = .ok (.iload_n 3, 1) := by decide +kernel
theorem dX8_feed_35 : decode cX8_feed 35 = .ok (.invokevirtual 69, 3) := by decide +kernel
theorem dX8_feed_38 : decode cX8_feed 38 = .ok (.aload_n 0, 1) := by decide +kernel
theorem dX8_feed_39 : decode cX8_feed 39 = .ok (.getfield 33, 3) := by decide +kernel
theorem dX8_feed_42 : decode cX8_feed 42 = .ok (.iload 4, 2) := by decide +kernel
theorem dX8_feed_44 : decode cX8_feed 44 = .ok (.invokevirtual 69, 3) := by decide +kernel
theorem dX8_feed_47 : decode cX8_feed 47 = .ok (.aload_n 0, 1) := by decide +kernel
theorem dX8_feed_48 : decode cX8_feed 48 = .ok (.getfield 33, 3) := by decide +kernel
theorem dX8_feed_51 : decode cX8_feed 51 = .ok (.iload 5, 2) := by decide +kernel
theorem dX8_feed_53 : decode cX8_feed 53 = .ok (.invokevirtual 69, 3) := by decide +kernel
theorem dX8_feed_56 : decode cX8_feed 56 = .ok (.aload_n 0, 1) := by decide +kernel
theorem dX8_feed_57 : decode cX8_feed 57 = .ok (.getfield 33, 3) := by decide +kernel
theorem dX8_feed_60 : decode cX8_feed 60 = .ok (.getfield 73, 3) := by decide +kernel
theorem dX8_feed_63 : decode cX8_feed 63 = .ok (.ireturn, 1) := by decide +kernel
theorem dX8_end_0 : decode cX8_end 0 = .ok (.iload_n 1, 1) := by decide +kernel
theorem dX8_end_1 : decode cX8_end 1 = .ok (.ifCond .lt 14, 3) := by decide +kernel
theorem dX8_end_4 : decode cX8_end 4 = .ok (.iload_n 1, 1) := by decide +kernel
theorem dX8_end_5 : decode cX8_end 5 = .ok (.aload_n 0, 1) := by decide +kernel
theorem dX8_end_6 : decode cX8_end 6 = .ok (.getfield 33, 3) := by decide +kernel
theorem dX8_end_9 : decode cX8_end 9 = .ok (.getfield 73, 3) := by decide +kernel
theorem dX8_end_12 : decode cX8_end 12 = .ok (.if_icmp .le 5, 3) := by decide +kernel
theorem dX8_end_15 : decode cX8_end 15 = .ok (.iconst (-1), 1) := by decide +kernel
theorem dX8_end_16 : decode cX8_end 16 = .ok (.ireturn, 1) := by decide +kernel
theorem dX8_end_17 : decode cX8_end 17 = .ok (.aload_n 0, 1) := by decide +kernel
theorem dX8_end_18 : decode cX8_end 18 = .ok (.getfield 33, 3) := by decide +kernel
theorem dX8_end_21 : decode cX8_end 21 = .ok (.iload_n 1, 1) := by decide +kernel
theorem dX8_end_22 : decode cX8_end 22 = .ok (.putfield 73, 3) := by decide +kernel
theorem dX8_end_25 : decode cX8_end 25 = .ok (.iload_n 1, 1) := by decide +kernel
theorem dX8_end_26 : decode cX8_end 26 = .ok (.ireturn, 1) := by decide +kernel
theorem dX8_told_0 : decode cX8_told 0 = .ok (.iload_n 1, 1) := by decide +kernel
theorem dX8_told_1 : decode cX8_told 1 = .ok (.invokestatic 77, 3) := by decide +kernel
theorem dX8_told_4 : decode cX8_told 4 = .ok (.ifCond .ne 6, 3) := by decide +kernel
theorem dX8_told_7 : decode cX8_told 7 = .ok (.bipush (-2), 2) := by decide +kernel
theorem dX8_told_9 : decode cX8_told 9 = .ok (.ireturn, 1) := by decide +kernel
theorem dX8_told_10 : decode cX8_told 10 = .ok (.aload_n 0, 1) := by decide +kernel
theorem dX8_told_11 : decode cX8_told 11 = .ok (.getfield 33, 3) := by decide +kernel
theorem dX8_told_14 : decode cX8_told 14 = .ok (.aload_n 0, 1) := by decide +kernel
theorem dX8_told_15 : decode cX8_told 15 = .ok (.getfield 16, 3) := by decide +kernel
theorem dX8_told_18 : decode cX8_told 18 = .ok (.invokevirtual 80, 3) := by decide +kernel
theorem dX8_told_21 : decode cX8_told 21 = .ok (.istore_n 2, 1) := by decide +kernel
