theorem dX9_init_5 : decode cX9_init 5 = .ok (.sipush 387, 3) := by decide +kernel
theorem dX9_init_8 : decode cX9_init 8 = .ok (.newarray .int, 2) := by decide +kernel
theorem dX9_init_10 : decode cX9_init 10 = .ok (.putfield 9, 3) := by decide +kernel
theorem dX9_init_13 : decode cX9_init 13 = .ok (.aload_n 0, 1) := by decide +kernel
theorem dX9_init_14 : decode cX9_init 14 = .ok (.sipush 128, 3) := by decide +kernel
theorem dX9_init_17 : decode cX9_init 17 = .ok (.newarray .boolean, 2) := by decide +kernel
theorem dX9_init_19 : decode cX9_init 19 = .ok (.putfield 13, 3) := by decide +kernel
theorem dX9_init_22 : decode cX9_init 22 = .ok (.aload_n 0, 1) := by decide +kernel
theorem dX9_init_23 : decode cX9_init 23 = .ok (.sipush 3870, 3) := by decide +kernel
theorem dX9_init_26 : decode cX9_init 26 = .ok (.newarray .int, 2) := by decide +kernel
theorem dX9_init_28 : decode cX9_init 28 = .ok (.putfield 17, 3) := by decide +kernel
theorem dX9_init_31 : decode cX9_init 31 = .ok (.aload_n 0, 1) := by decide +kernel
theorem dX9_init_32 : decode cX9_init 32 = .ok (.sipush 800, 3) := by decide +kernel
theorem dX9_init_35 : decode cX9_init 35 = .ok (.newarray .byte, 2) := by decide +kernel
theorem dX9_init_37 : decode cX9_init 37 = .ok (.putfield 20, 3) := by decide +kernel
theorem dX9_init_40 : decode cX9_init 40 = .ok (.aload_n 0, 1) := by decide +kernel
theorem dX9_init_41 : decode cX9_init 41 = .ok (.iconst (-1), 1) := by decide +kernel
theorem dX9_init_42 : decode cX9_init 42 = .ok (.putfield 24, 3) := by decide +kernel
theorem dX9_init_45 : decode cX9_init 45 = .ok (.aload_n 0, 1) := by decide +kernel
theorem dX9_init_46 : decode cX9_init 46 = .ok (.sipush 16384, 3) := by decide +kernel
theorem dX9_init_49 : decode cX9_init 49 = .ok (.newarray .int, 2) := by decide +kernel
theorem dX9_init_51 : decode cX9_init 51 = .ok (.putfield 28, 3) := by decide +kernel
theorem dX9_init_54 : decode cX9_init 54 = .ok (.aload_n 0, 1) := by decide +kernel
theorem dX9_init_55 : decode cX9_init 55 = .ok (.sipush 128, 3) := by decide +kernel
theorem dX9_init_58 : decode cX9_init 58 = .ok (.newarray .int, 2) := by decide +kernel
theorem dX9_init_60 : decode cX9_init 60 = .ok (.putfield 31, 3) := by decide +kernel
theorem dX9_init_63 : decode cX9_init 63 = .ok (.aload_n 0, 1) := by decide +kernel
theorem dX9_init_64 : decode cX9_init 64 = .ok (.sipush 128, 3) := by decide +kernel
theorem dX9_init_67 : decode cX9_init 67 = .ok (.newarray .int, 2) := by decide +kernel
theorem dX9_init_69 : decode cX9_init 69 = .ok (.putfield 34, 3) := by decide +kernel
theorem dX9_init_72 : decode cX9_init 72 = .ok (.aload_n 0, 1) := by decide +kernel
theorem dX9_init_73 : decode cX9_init 73 = .ok (.sipush 128, 3) := by decide +kernel
theorem dX9_init_76 : decode cX9_init 76 = .ok (.newarray .int, 2) := by decide +kernel
theorem dX9_init_78 : decode cX9_init 78 = .ok (.putfield 37, 3) := by decide +kernel
theorem dX9_init_81 : decode cX9_init 81 = .ok (.aload_n 0, 1) := by decide +kernel
theorem dX9_init_82 : decode cX9_init 82 = .ok (.sipush 128, 3) := by decide +kernel
theorem dX9_init_85 : decode cX9_init 85 = .ok (.newarray .int, 2) := by decide +kernel
theorem dX9_init_87 : decode cX9_init 87 = .ok (.putfield 40, 3) := by decide +kernel
theorem dX9_init_90 : decode cX9_init 90 = .ok (.aload_n 0, 1) := by decide +kernel
theorem dX9_init_91 : decode cX9_init 91 = .ok (.bipush 7, 2) := by decide +kernel
theorem dX9_init_93 : decode cX9_init 93 = .ok (.newarray .int, 2) := by decide +kernel
theorem dX9_init_95 : decode cX9_init 95 = .ok (.putfield 43, 3) := by decide +kernel
theorem dX9_init_98 : decode cX9_init 98 = .ok (.aload_n 0, 1) := by decide +kernel
theorem dX9_init_99 : decode cX9_init 99 = .ok (.bipush 7, 2) := by decide +kernel
theorem dX9_init_101 : decode cX9_init 101 = .ok (.newarray .int, 2) := by decide +kernel
theorem dX9_init_103 : decode cX9_init 103 = .ok (.putfield 46, 3) := by decide +kernel
theorem dX9_init_106 : decode cX9_init 106 = .ok (.aload_n 0, 1) := by decide +kernel
theorem dX9_init_107 : decode cX9_init 107 = .ok (.sipush 128, 3) := by decide +kernel
theorem dX9_init_110 : decode cX9_init 110 = .ok (.newarray .int, 2) := by decide +kernel
theorem dX9_init_112 : decode cX9_init 112 = .ok (.putfield 49, 3) := by decide +kernel
theorem dX9_init_115 : decode cX9_init 115 = .ok (.aload_n 0, 1) := by decide +kernel
theorem dX9_init_116 : decode cX9_init 116 = .ok (.bipush 7, 2) := by decide +kernel
theorem dX9_init_118 : decode cX9_init 118 = .ok (.newarray .int, 2) := by decide +kernel
theorem dX9_init_120 : decode cX9_init 120 = .ok (.putfield 52, 3) := by decide +kernel
theorem dX9_init_123 : decode cX9_init 123 = .ok (.aload_n 0, 1) := by decide +kernel
theorem dX9_init_124 : decode cX9_init 124 = .ok (.sipush 1200, 3) := by decide +kernel
theorem dX9_init_127 : decode cX9_init 127 = .ok (.newarray .byte, 2) := by decide +kernel
theorem dX9_init_129 : decode cX9_init 129 = .ok (.putfield 55, 3) := by decide +kernel
theorem dX9_init_132 : decode cX9_init 132 = .ok (.return_, 1) := by decide +kernel
theorem dX9_in_0 : decode cX9_in 0 = .ok (.lload_n 0, 1) := by decide +kernel
theorem dX9_in_1 : decode cX9_in 1 = .ok (.lload_n 2, 1) := by decide +kernel
theorem dX9_in_2 : decode cX9_in 2 = .ok (.lcmp, 1) := by decide +kernel
theorem dX9_in_3 : decode cX9_in 3 = .ok (.ifCond .lt 14, 3) := by decide +kernel
theorem dX9_in_6 : decode cX9_in 6 = .ok (.lload_n 0, 1) := by decide +kernel
theorem dX9_in_7 : decode cX9_in 7 = .ok (.lload 4, 2) := by decide +kernel
theorem dX9_in_9 : decode cX9_in 9 = .ok (.lcmp, 1) := by decide +kernel
theorem dX9_in_10 : decode cX9_in 10 = .ok (.ifCond .gt 7, 3) := by decide +kernel
theorem dX9_in_13 : decode cX9_in 13 = .ok (.iconst 1, 1) := by decide +kernel
theorem dX9_in_14 : decode cX9_in 14 = .ok (.goto 4, 3) := by decide +kernel
theorem dX9_in_17 : decode cX9_in 17 = .ok (.iconst 0, 1) := by decide +kernel
theorem dX9_in_18 : decode cX9_in 18 = .ok (.ireturn, 1) := by decide +kernel
theorem dX9_hasBit_0 : decode cX9_hasBit 0 = .ok (.iload_n 0, 1) := by decide +kernel
theorem dX9_hasBit_1 : decode cX9_hasBit 1 = .ok (.iload_n 1, 1) := by decide +kernel
theorem dX9_hasBit_2 : decode cX9_hasBit 2 = .ok (.ishr, 1) := by decide +kernel
theorem dX9_hasBit_3 : decode cX9_hasBit 3 = .ok (.iconst 1, 1) := by decide +kernel
theorem dX9_hasBit_4 : decode cX9_hasBit 4 = .ok (.iand, 1) := by decide +kernel
theorem dX9_hasBit_5 : decode cX9_hasBit 5 = .ok (.iconst 1, 1) := by decide +kernel
theorem dX9_hasBit_6 : decode cX9_hasBit 6 = .ok (.if_icmp .ne 7, 3) := by decide +kernel
theorem dX9_hasBit_9 : decode cX9_hasBit 9 = .ok (.iconst 1, 1) := by decide +kernel
theorem dX9_hasBit_10 : decode cX9_hasBit 10 = .ok (.goto 4, 3) := by decide +kernel
theorem dX9_hasBit_13 : decode cX9_hasBit 13 = .ok (.iconst 0, 1) := by decide +kernel
theorem dX9_hasBit_14 : decode cX9_hasBit 14 = .ok (.ireturn, 1) := by decide +kernel
theorem dX9_bits_0 : decode cX9_bits 0 = .ok (.iconst 0, 1) := by decide +kernel
theorem dX9_bits_1 : decode cX9_bits 1 = .ok (.istore_n 1, 1) := by decide +kernel
theorem dX9_bits_2 : decode cX9_bits 2 = .ok (.iload_n 0, 1) := by decide +kernel
theorem dX9_bits_3 : decode cX9_bits 3 = .ok (.istore_n 2, 1) := by decide +kernel
theorem dX9_bits_4 : decode cX9_bits 4 = .ok (.iload_n 2, 1) := by decide +kernel
theorem dX9_bits_5 : decode cX9_bits 5 = .ok (.ifCond .eq 15, 3) := by decide +kernel
theorem dX9_bits_8 : decode cX9_bits 8 = .ok (.iinc 1 1, 3) := by decide +kernel
theorem dX9_bits_11 : decode cX9_bits 11 = .ok (.iload_n 2, 1) := by decide +kernel
theorem dX9_bits_12 : decode cX9_bits 12 = .ok (.iload_n 2, 1) := by decide +kernel
theorem dX9_bits_13 : decode cX9_bits 13 = .ok (.iconst 1, 1) := by decide +kernel
theorem dX9_bits_14 : decode cX9_bits 14 = .ok (.isub, 1) := by decide +kernel
theorem dX9_bits_15 : decode cX9_bits 15 = .ok (.iand, 1) := by decide +kernel
theorem dX9_bits_16 : decode cX9_bits 16 = .ok (.istore_n 2, 1) := by decide +kernel
theorem dX9_bits_17 : decode cX9_bits 17 = .ok (.goto (-13), 3) := by decide +kernel
theorem dX9_bits_20 : decode cX9_bits 20 = .ok (.iload_n 1, 1) := by decide +kernel
theorem dX9_bits_21 : decode cX9_bits 21 = .ok (.ireturn, 1) := by decide +kernel
theorem dX9_base_0 : decode cX9_base 0 = .ok (.sipush 129, 3) := by decide +kernel
theorem dX9_base_3 : decode cX9_base 3 = .ok (.iload_n 0, 1) := by decide +kernel
theorem dX9_base_4 : decode cX9_base 4 = .ok (.imul, 1) := by decide +kernel
theorem dX9_base_5 : decode cX9_base 5 = .ok (.ireturn, 1) := by decide +kernel
theorem dX9_isSlot_0 : decode cX9_isSlot 0 = .ok (.iload_n 0, 1) := by decide +kernel
theorem dX9_isSlot_1 : decode cX9_isSlot 1 = .ok (.i2l, 1) := by decide +kernel
theorem dX9_isSlot_2 : decode cX9_isSlot 2 = .ok (.lconst 0, 1) := by decide +kernel
theorem dX9_isSlot_3 : decode cX9_isSlot 3 = .ok (.ldc2_w 61, 3) := by decide +kernel
theorem dX9_isSlot_6 : decode cX9_isSlot 6 = .ok (.invokestatic 63, 3) := by decide +kernel
theorem dX9_isSlot_9 : decode cX9_isSlot 9 = .ok (.ireturn, 1) := by decide +kernel
theorem dX9_hasOne_0 : decode cX9_hasOne 0 = .ok (.iload_n 1, 1) := by decide +kernel
theorem dX9_hasOne_1 : decode cX9_hasOne 1 = .ok (.invokestatic 67, 3) := by decide +kernel
theorem dX9_hasOne_4 : decode cX9_hasOne 4 = .ok (.ifCond .eq 19, 3) := by decide +kernel
theorem dX9_hasOne_7 : decode cX9_hasOne 7 = .ok (.aload_n 0, 1) := by decide +kernel
theorem dX9_hasOne_8 : decode cX9_hasOne 8 = .ok (.getfield 9, 3) := by decide +kernel
theorem dX9_hasOne_11 : decode cX9_hasOne 11 = .ok (.iload_n 1, 1) := by decide +kernel
theorem dX9_hasOne_12 : decode cX9_hasOne 12 = .ok (.invokestatic 71, 3) := by decide +kernel
theorem dX9_hasOne_15 : decode cX9_hasOne 15 = .ok (.iaload, 1) := by decide +kernel
theorem dX9_hasOne_16 : decode cX9_hasOne 16 = .ok (.ifCond .le 7, 3) := by decide +kernel
theorem dX9_hasOne_19 : decode cX9_hasOne 19 = .ok (.iconst 1, 1) := by decide +kernel
theorem dX9_hasOne_20 : decode cX9_hasOne 20 = .ok (.goto 4, 3) := by decide +kernel
theorem dX9_hasOne_23 : decode cX9_hasOne 23 = .ok (.iconst 0, 1) := by decide +kernel
theorem dX9_hasOne_24 : decode cX9_hasOne 24 = .ok (.ireturn, 1) := by decide +kernel
theorem dX9_points_0 : decode cX9_points 0 = .ok (.aload_n 0, 1) := by decide +kernel
theorem dX9_points_1 : decode cX9_points 1 = .ok (.getfield 9, 3) := by decide +kernel
theorem dX9_points_4 : decode cX9_points 4 = .ok (.iload_n 1, 1) := by decide +kernel
theorem dX9_points_5 : decode cX9_points 5 = .ok (.invokestatic 71, 3) := by decide +kernel
theorem dX9_points_8 : decode cX9_points 8 = .ok (.iaload, 1) := by decide +kernel
theorem dX9_points_9 : decode cX9_points 9 = .ok (.ireturn, 1) := by decide +kernel
theorem dX9_isIn_0 : decode cX9_isIn 0 = .ok (.aload_n 0, 1) := by decide +kernel
theorem dX9_isIn_1 : decode cX9_isIn 1 = .ok (.getfield 9, 3) := by decide +kernel
theorem dX9_isIn_4 : decode cX9_isIn 4 = .ok (.iload_n 1, 1) := by decide +kernel
theorem dX9_isIn_5 : decode cX9_isIn 5 = .ok (.invokestatic 71, 3) := by decide +kernel
theorem dX9_isIn_8 : decode cX9_isIn 8 = .ok (.iconst 1, 1) := by decide +kernel
theorem dX9_isIn_9 : decode cX9_isIn 9 = .ok (.iadd, 1) := by decide +kernel
theorem dX9_isIn_10 : decode cX9_isIn 10 = .ok (.iload_n 2, 1) := by decide +kernel
theorem dX9_isIn_11 : decode cX9_isIn 11 = .ok (.iadd, 1) := by decide +kernel
theorem dX9_isIn_12 : decode cX9_isIn 12 = .ok (.iaload, 1) := by decide +kernel
theorem dX9_isIn_13 : decode cX9_isIn 13 = .ok (.iconst 1, 1) := by decide +kernel
theorem dX9_isIn_14 : decode cX9_isIn 14 = .ok (.if_icmp .ne 7, 3) := by decide +kernel
theorem dX9_isIn_17 : decode cX9_isIn 17 = .ok (.iconst 1, 1) := by decide +kernel
theorem dX9_isIn_18 : decode cX9_isIn 18 = .ok (.goto 4, 3) := by decide +kernel
theorem dX9_isIn_21 : decode cX9_isIn 21 = .ok (.iconst 0, 1) := by decide +kernel
theorem dX9_isIn_22 : decode cX9_isIn 22 = .ok (.ireturn, 1) := by decide +kernel
theorem dX9_isPoint_0 : decode cX9_isPoint 0 = .ok (.aload_n 0, 1) := by decide +kernel
theorem dX9_isPoint_1 : decode cX9_isPoint 1 = .ok (.iload_n 1, 1) := by decide +kernel
theorem dX9_isPoint_2 : decode cX9_isPoint 2 = .ok (.invokevirtual 75, 3) := by decide +kernel
theorem dX9_isPoint_5 : decode cX9_isPoint 5 = .ok (.ifCond .eq 24, 3) := by decide +kernel
theorem dX9_isPoint_8 : decode cX9_isPoint 8 = .ok (.iload_n 2, 1) := by decide +kernel
theorem dX9_isPoint_9 : decode cX9_isPoint 9 = .ok (.i2l, 1) := by decide +kernel
theorem dX9_isPoint_10 : decode cX9_isPoint 10 = .ok (.lconst 0, 1) := by decide +kernel
theorem dX9_isPoint_11 : decode cX9_isPoint 11 = .ok (.aload_n 0, 1) := by decide +kernel
theorem dX9_isPoint_12 : decode cX9_isPoint 12 = .ok (.iload_n 1, 1) := by decide +kernel
theorem dX9_isPoint_13 : decode cX9_isPoint 13 = .ok (.invokevirtual 78, 3) := by decide +kernel
theorem dX9_isPoint_16 : decode cX9_isPoint 16 = .ok (.iconst 1, 1) := by decide +kernel
theorem dX9_isPoint_17 : decode cX9_isPoint 17 = .ok (.isub, 1) := by decide +kernel
theorem dX9_isPoint_18 : decode cX9_isPoint 18 = .ok (.i2l, 1) := by decide +kernel
theorem dX9_isPoint_19 : decode cX9_isPoint 19 = .ok (.invokestatic 63, 3) := by decide +kernel
theorem dX9_isPoint_22 : decode cX9_isPoint 22 = .ok (.ifCond .eq 7, 3) := by decide +kernel
theorem dX9_isPoint_25 : decode cX9_isPoint 25 = .ok (.iconst 1, 1) := by decide +kernel
theorem dX9_isPoint_26 : decode cX9_isPoint 26 = .ok (.goto 4, 3) := by decide +kernel
theorem dX9_isPoint_29 : decode cX9_isPoint 29 = .ok (.iconst 0, 1) := by decide +kernel
theorem dX9_isPoint_30 : decode cX9_isPoint 30 = .ok (.ireturn, 1) := by decide +kernel
theorem dX9_isSet_0 : decode cX9_isSet 0 = .ok (.aload_n 0, 1) := by decide +kernel
theorem dX9_isSet_1 : decode cX9_isSet 1 = .ok (.iload_n 1, 1) := by decide +kernel
theorem dX9_isSet_2 : decode cX9_isSet 2 = .ok (.invokevirtual 75, 3) := by decide +kernel
theorem dX9_isSet_5 : decode cX9_isSet 5 = .ok (.ifCond .eq 26, 3) := by decide +kernel
theorem dX9_isSet_8 : decode cX9_isSet 8 = .ok (.iload_n 2, 1) := by decide +kernel
theorem dX9_isSet_9 : decode cX9_isSet 9 = .ok (.i2l, 1) := by decide +kernel
theorem dX9_isSet_10 : decode cX9_isSet 10 = .ok (.lconst 0, 1) := by decide +kernel
theorem dX9_isSet_11 : decode cX9_isSet 11 = .ok (.iconst 1, 1) := by decide +kernel
theorem dX9_isSet_12 : decode cX9_isSet 12 = .ok (.aload_n 0, 1) := by decide +kernel
theorem dX9_isSet_13 : decode cX9_isSet 13 = .ok (.iload_n 1, 1) := by decide +kernel
theorem dX9_isSet_14 : decode cX9_isSet 14 = .ok (.invokevirtual 78, 3) := by decide +kernel
theorem dX9_isSet_17 : decode cX9_isSet 17 = .ok (.ishl, 1) := by decide +kernel
theorem dX9_isSet_18 : decode cX9_isSet 18 = .ok (.iconst 1, 1) := by decide +kernel
theorem dX9_isSet_19 : decode cX9_isSet 19 = .ok (.isub, 1) := by decide +kernel
theorem dX9_isSet_20 : decode cX9_isSet 20 = .ok (.i2l, 1) := by decide +kernel
theorem dX9_isSet_21 : decode cX9_isSet 21 = .ok (.invokestatic 63, 3) := by decide +kernel
theorem dX9_isSet_24 : decode cX9_isSet 24 = .ok (.ifCond .eq 7, 3) := by decide +kernel
theorem dX9_isSet_27 : decode cX9_isSet 27 = .ok (.iconst 1, 1) := by decide +kernel
theorem dX9_isSet_28 : decode cX9_isSet 28 = .ok (.goto 4, 3) := by decide +kernel
theorem dX9_isSet_31 : decode cX9_isSet 31 = .ok (.iconst 0, 1) := by decide +kernel
theorem dX9_isSet_32 : decode cX9_isSet 32 = .ok (.ireturn, 1) := by decide +kernel
theorem dX9_many_0 : decode cX9_many 0 = .ok (.iconst 0, 1) := by decide +kernel
theorem dX9_many_1 : decode cX9_many 1 = .ok (.istore_n 2, 1) := by decide +kernel
theorem dX9_many_2 : decode cX9_many 2 = .ok (.iconst 0, 1) := by decide +kernel
theorem dX9_many_3 : decode cX9_many 3 = .ok (.istore_n 3, 1) := by decide +kernel
theorem dX9_many_4 : decode cX9_many 4 = .ok (.iload_n 3, 1) := by decide +kernel
theorem dX9_many_5 : decode cX9_many 5 = .ok (.sipush 128, 3) := by decide +kernel
theorem dX9_many_8 : decode cX9_many 8 = .ok (.if_icmp .ge 25, 3) := by decide +kernel
theorem dX9_many_11 : decode cX9_many 11 = .ok (.iload_n 2, 1) := by decide +kernel
theorem dX9_many_12 : decode cX9_many 12 = .ok (.aload_n 0, 1) := by decide +kernel
theorem dX9_many_13 : decode cX9_many 13 = .ok (.getfield 9, 3) := by decide +kernel
theorem dX9_many_16 : decode cX9_many 16 = .ok (.iload_n 1, 1) := by decide +kernel
theorem dX9_many_17 : decode cX9_many 17 = .ok (.invokestatic 71, 3) := by decide +kernel
theorem dX9_many_20 : decode cX9_many 20 = .ok (.iconst 1, 1) := by decide +kernel
theorem dX9_many_21 : decode cX9_many 21 = .ok (.iadd, 1) := by decide +kernel
theorem dX9_many_22 : decode cX9_many 22 = .ok (.iload_n 3, 1) := by decide +kernel
theorem dX9_many_23 : decode cX9_many 23 = .ok (.iadd, 1) := by decide +kernel
theorem dX9_many_24 : decode cX9_many 24 = .ok (.iaload, 1) := by decide +kernel
theorem dX9_many_25 : decode cX9_many 25 = .ok (.iadd, 1) := by decide +kernel
theorem dX9_many_26 : decode cX9_many 26 = .ok (.istore_n 2, 1) := by decide +kernel
theorem dX9_many_27 : decode cX9_many 27 = .ok (.iinc 3 1, 3) := by decide +kernel
theorem dX9_many_30 : decode cX9_many 30 = .ok (.goto (-26), 3) := by decide +kernel
theorem dX9_many_33 : decode cX9_many 33 = .ok (.iload_n 2, 1) := by decide +kernel
theorem dX9_many_34 : decode cX9_many 34 = .ok (.ireturn, 1) := by decide +kernel
theorem dX9_kth_0 : decode cX9_kth 0 = .ok (.iload_n 2, 1) := by decide +kernel
theorem dX9_kth_1 : decode cX9_kth 1 = .ok (.istore_n 3, 1) := by decide +kernel
theorem dX9_kth_2 : decode cX9_kth 2 = .ok (.iconst 0, 1) := by decide +kernel
theorem dX9_kth_3 : decode cX9_kth 3 = .ok (.istore 4, 2) := by decide +kernel
theorem dX9_kth_5 : decode cX9_kth 5 = .ok (.iload 4, 2) := by decide +kernel
theorem dX9_kth_7 : decode cX9_kth 7 = .ok (.sipush 128, 3) := by decide +kernel
theorem dX9_kth_10 : decode cX9_kth 10 = .ok (.if_icmp .ge 32, 3) := by decide +kernel
theorem dX9_kth_13 : decode cX9_kth 13 = .ok (.aload_n 0, 1) := by decide +kernel
theorem dX9_kth_14 : decode cX9_kth 14 = .ok (.iload_n 1, 1) := by decide +kernel
theorem dX9_kth_15 : decode cX9_kth 15 = .ok (.iload 4, 2) := by decide +kernel
theorem dX9_kth_17 : decode cX9_kth 17 = .ok (.invokevirtual 81, 3) := by decide +kernel
theorem dX9_kth_20 : decode cX9_kth 20 = .ok (.ifCond .ne 6, 3) := by decide +kernel
theorem dX9_kth_23 : decode cX9_kth 23 = .ok (.goto 13, 3) := by decide +kernel
theorem dX9_kth_26 : decode cX9_kth 26 = .ok (.iload_n 3, 1) := by decide +kernel
theorem dX9_kth_27 : decode cX9_kth 27 = .ok (.ifCond .ne 6, 3) := by decide +kernel
theorem dX9_kth_30 : decode cX9_kth 30 = .ok (.iload 4, 2) := by decide +kernel
theorem dX9_kth_32 : decode cX9_kth 32 = .ok (.ireturn, 1) := by decide +kernel
theorem dX9_kth_33 : decode cX9_kth 33 = .ok (.iinc 3 (-1), 3) := by decide +kernel
theorem dX9_kth_36 : decode cX9_kth 36 = .ok (.iinc 4 1, 3) := by decide +kernel
theorem dX9_kth_39 : decode cX9_kth 39 = .ok (.goto (-34), 3) := by decide +kernel
theorem dX9_kth_42 : decode cX9_kth 42 = .ok (.iconst (-1), 1) := by decide +kernel
theorem dX9_kth_43 : decode cX9_kth 43 = .ok (.ireturn, 1) := by decide +kernel
theorem dX9_keeps_0 : decode cX9_keeps 0 = .ok (.aload_n 0, 1) := by decide +kernel
theorem dX9_keeps_1 : decode cX9_keeps 1 = .ok (.getfield 85, 3) := by decide +kernel
theorem dX9_keeps_4 : decode cX9_keeps 4 = .ok (.bipush 10, 2) := by decide +kernel
theorem dX9_keeps_6 : decode cX9_keeps 6 = .ok (.if_icmp .ne 46, 3) := by decide +kernel
theorem dX9_keeps_9 : decode cX9_keeps 9 = .ok (.sipush 387, 3) := by decide +kernel
theorem dX9_keeps_12 : decode cX9_keeps 12 = .ok (.istore_n 1, 1) := by decide +kernel
theorem dX9_keeps_13 : decode cX9_keeps 13 = .ok (.iload_n 1, 1) := by decide +kernel
theorem dX9_keeps_14 : decode cX9_keeps 14 = .ok (.sipush 3870, 3) := by decide +kernel
theorem dX9_keeps_17 : decode cX9_keeps 17 = .ok (.if_icmp .ge 25, 3) := by decide +kernel
theorem dX9_keeps_20 : decode cX9_keeps 20 = .ok (.aload_n 0, 1) := by decide +kernel
theorem dX9_keeps_21 : decode cX9_keeps 21 = .ok (.getfield 17, 3) := by decide +kernel
theorem dX9_keeps_24 : decode cX9_keeps 24 = .ok (.iload_n 1, 1) := by decide +kernel
theorem dX9_keeps_25 : decode cX9_keeps 25 = .ok (.sipush 387, 3) := by decide +kernel
theorem dX9_keeps_28 : decode cX9_keeps 28 = .ok (.isub, 1) := by decide +kernel
theorem dX9_keeps_29 : decode cX9_keeps 29 = .ok (.aload_n 0, 1) := by decide +kernel
theorem dX9_keeps_30 : decode cX9_keeps 30 = .ok (.getfield 17, 3) := by decide +kernel
theorem dX9_keeps_33 : decode cX9_keeps 33 = .ok (.iload_n 1, 1) := by decide +kernel
theorem dX9_keeps_34 : decode cX9_keeps 34 = .ok (.iaload, 1) := by decide +kernel
theorem dX9_keeps_35 : decode cX9_keeps 35 = .ok (.iastore, 1) := by decide +kernel
theorem dX9_keeps_36 : decode cX9_keeps 36 = .ok (.iinc 1 1, 3) := by decide +kernel
theorem dX9_keeps_39 : decode cX9_keeps 39 = .ok (.goto (-26), 3) := by decide +kernel
theorem dX9_keeps_42 : decode cX9_keeps 42 = .ok (.aload_n 0, 1) := by decide +kernel
theorem dX9_keeps_43 : decode cX9_keeps 43 = .ok (.dup, 1) := by decide +kernel
theorem dX9_keeps_44 : decode cX9_keeps 44 = .ok (.getfield 85, 3) := by decide +kernel
theorem dX9_keeps_47 : decode cX9_keeps 47 = .ok (.iconst 1, 1) := by decide +kernel
theorem dX9_keeps_48 : decode cX9_keeps 48 = .ok (.isub, 1) := by decide +kernel
theorem dX9_keeps_49 : decode cX9_keeps 49 = .ok (.putfield 85, 3) := by decide +kernel
theorem dX9_keeps_52 : decode cX9_keeps 52 = .ok (.iconst 0, 1) := by decide +kernel
theorem dX9_keeps_53 : decode cX9_keeps 53 = .ok (.istore_n 1, 1) := by decide +kernel
theorem dX9_keeps_54 : decode cX9_keeps 54 = .ok (.iload_n 1, 1) := by decide +kernel
theorem dX9_keeps_55 : decode cX9_keeps 55 = .ok (.sipush 387, 3) := by decide +kernel
theorem dX9_keeps_58 : decode cX9_keeps 58 = .ok (.if_icmp .ge 30, 3) := by decide +kernel
theorem dX9_keeps_61 : decode cX9_keeps 61 = .ok (.aload_n 0, 1) := by decide +kernel
theorem dX9_keeps_62 : decode cX9_keeps 62 = .ok (.getfield 17, 3) := by decide +kernel
theorem dX9_keeps_65 : decode cX9_keeps 65 = .ok (.sipush 387, 3) := by decide +kernel
theorem dX9_keeps_68 : decode cX9_keeps 68 = .ok (.aload_n 0, 1) := by decide +kernel
theorem dX9_keeps_69 : decode cX9_keeps 69 = .ok (.getfield 85, 3) := by decide +kernel
theorem dX9_keeps_72 : decode cX9_keeps 72 = .ok (.imul, 1) := by decide +kernel
theorem dX9_keeps_73 : decode cX9_keeps 73 = .ok (.iload_n 1, 1) := by decide +kernel
theorem dX9_keeps_74 : decode cX9_keeps 74 = .ok (.iadd, 1) := by decide +kernel
theorem dX9_keeps_75 : decode cX9_keeps 75 = .ok (.aload_n 0, 1) := by decide +kernel
theorem dX9_keeps_76 : decode cX9_keeps 76 = .ok (.getfield 9, 3) := by decide +kernel
theorem dX9_keeps_79 : decode cX9_keeps 79 = .ok (.iload_n 1, 1) := by decide +kernel
theorem dX9_keeps_80 : decode cX9_keeps 80 = .ok (.iaload, 1) := by decide +kernel
theorem dX9_keeps_81 : decode cX9_keeps 81 = .ok (.iastore, 1) := by decide +kernel
theorem dX9_keeps_82 : decode cX9_keeps 82 = .ok (.iinc 1 1, 3) := by decide +kernel
theorem dX9_keeps_85 : decode cX9_keeps 85 = .ok (.goto (-31), 3) := by decide +kernel
theorem dX9_keeps_88 : decode cX9_keeps 88 = .ok (.aload_n 0, 1) := by decide +kernel
theorem dX9_keeps_89 : decode cX9_keeps 89 = .ok (.dup, 1) := by decide +kernel
theorem dX9_keeps_90 : decode cX9_keeps 90 = .ok (.getfield 85, 3) := by decide +kernel
theorem dX9_keeps_93 : decode cX9_keeps 93 = .ok (.iconst 1, 1) := by decide +kernel
theorem dX9_keeps_94 : decode cX9_keeps 94 = .ok (.iadd, 1) := by decide +kernel
theorem dX9_keeps_95 : decode cX9_keeps 95 = .ok (.putfield 85, 3) := by decide +kernel
theorem dX9_keeps_98 : decode cX9_keeps 98 = .ok (.return_, 1) := by decide +kernel
theorem dX9_undo_0 : decode cX9_undo 0 = .ok (.aload_n 0, 1) := by decide +kernel
theorem dX9_undo_1 : decode cX9_undo 1 = .ok (.getfield 85, 3) := by decide +kernel
theorem dX9_undo_4 : decode cX9_undo 4 = .ok (.ifCond .ne 5, 3) := by decide +kernel
theorem dX9_undo_7 : decode cX9_undo 7 = .ok (.iconst (-1), 1) := by decide +kernel
theorem dX9_undo_8 : decode cX9_undo 8 = .ok (.ireturn, 1) := by decide +kernel
theorem dX9_undo_9 : decode cX9_undo 9 = .ok (.aload_n 0, 1) := by decide +kernel
theorem dX9_undo_10 : decode cX9_undo 10 = .ok (.dup, 1) := by decide +kernel
theorem dX9_undo_11 : decode cX9_undo 11 = .ok (.getfield 85, 3) := by decide +kernel
theorem dX9_undo_14 : decode cX9_undo 14 = .ok (.iconst 1, 1) := by decide +kernel
theorem dX9_undo_15 : decode cX9_undo 15 = .ok (.isub, 1) := by decide +kernel
theorem dX9_undo_16 : decode cX9_undo 16 = .ok (.putfield 85, 3) := by decide +kernel
theorem dX9_undo_19 : decode cX9_undo 19 = .ok (.iconst 0, 1) := by decide +kernel
theorem dX9_undo_20 : decode cX9_undo 20 = .ok (.istore_n 1, 1) := by decide +kernel
theorem dX9_undo_21 : decode cX9_undo 21 = .ok (.iload_n 1, 1) := by decide +kernel
theorem dX9_undo_22 : decode cX9_undo 22 = .ok (.sipush 387, 3) := by decide +kernel
theorem dX9_undo_25 : decode cX9_undo 25 = .ok (.if_icmp .ge 30, 3) := by decide +kernel
theorem dX9_undo_28 : decode cX9_undo 28 = .ok (.aload_n 0, 1) := by decide +kernel
theorem dX9_undo_29 : decode cX9_undo 29 = .ok (.getfield 9, 3) := by decide +kernel
theorem dX9_undo_32 : decode cX9_undo 32 = .ok (.iload_n 1, 1) := by decide +kernel
theorem dX9_undo_33 : decode cX9_undo 33 = .ok (.aload_n 0, 1) := by decide +kernel
theorem dX9_undo_34 : decode cX9_undo 34 = .ok (.getfield 17, 3) := by decide +kernel
theorem dX9_undo_37 : decode cX9_undo 37 = .ok (.sipush 387, 3) := by decide +kernel
theorem dX9_undo_40 : decode cX9_undo 40 = .ok (.aload_n 0, 1) := by decide +kernel
theorem dX9_undo_41 : decode cX9_undo 41 = .ok (.getfield 85, 3) := by decide +kernel
theorem dX9_undo_44 : decode cX9_undo 44 = .ok (.imul, 1) := by decide +kernel
theorem dX9_undo_45 : decode cX9_undo 45 = .ok (.iload_n 1, 1) := by decide +kernel
theorem dX9_undo_46 : decode cX9_undo 46 = .ok (.iadd, 1) := by decide +kernel
theorem dX9_undo_47 : decode cX9_undo 47 = .ok (.iaload, 1) := by decide +kernel
theorem dX9_undo_48 : decode cX9_undo 48 = .ok (.iastore, 1) := by decide +kernel
theorem dX9_undo_49 : decode cX9_undo 49 = .ok (.iinc 1 1, 3) := by decide +kernel
theorem dX9_undo_52 : decode cX9_undo 52 = .ok (.goto (-31), 3) := by decide +kernel
theorem dX9_undo_55 : decode cX9_undo 55 = .ok (.aload_n 0, 1) := by decide +kernel
theorem dX9_undo_56 : decode cX9_undo 56 = .ok (.getfield 85, 3) := by decide +kernel
theorem dX9_undo_59 : decode cX9_undo 59 = .ok (.ireturn, 1) := by decide +kernel
theorem dX9_clearsFresh_0 : decode cX9_clearsFresh 0 = .ok (.aload_n 0, 1) := by decide +kernel
theorem dX9_clearsFresh_1 : decode cX9_clearsFresh 1 = .ok (.iload_n 1, 1) := by decide +kernel
theorem dX9_clearsFresh_2 : decode cX9_clearsFresh 2 = .ok (.putfield 88, 3) := by decide +kernel
theorem dX9_clearsFresh_5 : decode cX9_clearsFresh 5 = .ok (.iconst 0, 1) := by decide +kernel
theorem dX9_clearsFresh_6 : decode cX9_clearsFresh 6 = .ok (.istore_n 2, 1) := by decide +kernel
theorem dX9_clearsFresh_7 : decode cX9_clearsFresh 7 = .ok (.iload_n 2, 1) := by decide +kernel
theorem dX9_clearsFresh_8 : decode cX9_clearsFresh 8 = .ok (.sipush 128, 3) := by decide +kernel
theorem dX9_clearsFresh_11 : decode cX9_clearsFresh 11 = .ok (.if_icmp .ge 16, 3) := by decide +kernel
theorem dX9_clearsFresh_14 : decode cX9_clearsFresh 14 = .ok (.aload_n 0, 1) := by decide +kernel
theorem dX9_clearsFresh_15 : decode cX9_clearsFresh 15 = .ok (.getfield 13, 3) := by decide +kernel
theorem dX9_clearsFresh_18 : decode cX9_clearsFresh 18 = .ok (.iload_n 2, 1) := by decide +kernel
theorem dX9_clearsFresh_19 : decode cX9_clearsFresh 19 = .ok (.iconst 0, 1) := by decide +kernel
theorem dX9_clearsFresh_20 : decode cX9_clearsFresh 20 = .ok (.bastore, 1) := by decide +kernel
theorem dX9_clearsFresh_21 : decode cX9_clearsFresh 21 = .ok (.iinc 2 1, 3) := by decide +kernel
theorem dX9_clearsFresh_24 : decode cX9_clearsFresh 24 = .ok (.goto (-17), 3) := by decide +kernel
theorem dX9_clearsFresh_27 : decode cX9_clearsFresh 27 = .ok (.return_, 1) := by decide +kernel
theorem dX9_copiesFresh_0 : decode cX9_copiesFresh 0 = .ok (.aload_n 0, 1) := by decide +kernel
theorem dX9_copiesFresh_1 : decode cX9_copiesFresh 1 = .ok (.aload_n 0, 1) := by decide +kernel
theorem dX9_copiesFresh_2 : decode cX9_copiesFresh 2 = .ok (.iload_n 1, 1) := by decide +kernel
theorem dX9_copiesFresh_3 : decode cX9_copiesFresh 3 = .ok (.invokevirtual 78, 3) := by decide +kernel
theorem dX9_copiesFresh_6 : decode cX9_copiesFresh 6 = .ok (.putfield 88, 3) := by decide +kernel
theorem dX9_copiesFresh_9 : decode cX9_copiesFresh 9 = .ok (.iconst 0, 1) := by decide +kernel
theorem dX9_copiesFresh_10 : decode cX9_copiesFresh 10 = .ok (.istore_n 2, 1) := by decide +kernel
theorem dX9_copiesFresh_11 : decode cX9_copiesFresh 11 = .ok (.iload_n 2, 1) := by decide +kernel
theorem dX9_copiesFresh_12 : decode cX9_copiesFresh 12 = .ok (.sipush 128, 3) := by decide +kernel
theorem dX9_copiesFresh_15 : decode cX9_copiesFresh 15 = .ok (.if_icmp .ge 21, 3) := by decide +kernel
theorem dX9_copiesFresh_18 : decode cX9_copiesFresh 18 = .ok (.aload_n 0, 1) := by decide +kernel
theorem dX9_copiesFresh_19 : decode cX9_copiesFresh 19 = .ok (.getfield 13, 3) := by decide +kernel
theorem dX9_copiesFresh_22 : decode cX9_copiesFresh 22 = .ok (.iload_n 2, 1) := by decide +kernel
theorem dX9_copiesFresh_23 : decode cX9_copiesFresh 23 = .ok (.aload_n 0, 1) := by decide +kernel
theorem dX9_copiesFresh_24 : decode cX9_copiesFresh 24 = .ok (.iload_n 1, 1) := by decide +kernel
theorem dX9_copiesFresh_25 : decode cX9_copiesFresh 25 = .ok (.iload_n 2, 1) := by decide +kernel
theorem dX9_copiesFresh_26 : decode cX9_copiesFresh 26 = .ok (.invokevirtual 81, 3) := by decide +kernel
theorem dX9_copiesFresh_29 : decode cX9_copiesFresh 29 = .ok (.bastore, 1) := by decide +kernel
theorem dX9_copiesFresh_30 : decode cX9_copiesFresh 30 = .ok (.iinc 2 1, 3) := by decide +kernel
theorem dX9_copiesFresh_33 : decode cX9_copiesFresh 33 = .ok (.goto (-22), 3) := by decide +kernel
theorem dX9_copiesFresh_36 : decode cX9_copiesFresh 36 = .ok (.return_, 1) := by decide +kernel
theorem dX9_isFreshLike_0 : decode cX9_isFreshLike 0 = .ok (.aload_n 0, 1) := by decide +kernel
theorem dX9_isFreshLike_1 : decode cX9_isFreshLike 1 = .ok (.iload_n 1, 1) := by decide +kernel
theorem dX9_isFreshLike_2 : decode cX9_isFreshLike 2 = .ok (.invokevirtual 78, 3) := by decide +kernel
theorem dX9_isFreshLike_5 : decode cX9_isFreshLike 5 = .ok (.aload_n 0, 1) := by decide +kernel
theorem dX9_isFreshLike_6 : decode cX9_isFreshLike 6 = .ok (.getfield 88, 3) := by decide +kernel
theorem dX9_isFreshLike_9 : decode cX9_isFreshLike 9 = .ok (.if_icmp .ne 7, 3) := by decide +kernel
theorem dX9_isFreshLike_12 : decode cX9_isFreshLike 12 = .ok (.iconst 1, 1) := by decide +kernel
theorem dX9_isFreshLike_13 : decode cX9_isFreshLike 13 = .ok (.goto 4, 3) := by decide +kernel
theorem dX9_isFreshLike_16 : decode cX9_isFreshLike 16 = .ok (.iconst 0, 1) := by decide +kernel
theorem dX9_isFreshLike_17 : decode cX9_isFreshLike 17 = .ok (.istore_n 2, 1) := by decide +kernel
theorem dX9_isFreshLike_18 : decode cX9_isFreshLike 18 = .ok (.iconst 0, 1) := by decide +kernel
theorem dX9_isFreshLike_19 : decode cX9_isFreshLike 19 = .ok (.istore_n 3, 1) := by decide +kernel
theorem dX9_isFreshLike_20 : decode cX9_isFreshLike 20 = .ok (.iload_n 3, 1) := by decide +kernel
theorem dX9_isFreshLike_21 : decode cX9_isFreshLike 21 = .ok (.sipush 128, 3) := by decide +kernel
theorem dX9_isFreshLike_24 : decode cX9_isFreshLike 24 = .ok (.if_icmp .ge 34, 3) := by decide +kernel
theorem dX9_isFreshLike_27 : decode cX9_isFreshLike 27 = .ok (.iload_n 2, 1) := by decide +kernel
theorem dX9_isFreshLike_28 : decode cX9_isFreshLike 28 = .ok (.ifCond .eq 30, 3) := by decide +kernel
theorem dX9_isFreshLike_31 : decode cX9_isFreshLike 31 = .ok (.aload_n 0, 1) := by decide +kernel
theorem dX9_isFreshLike_32 : decode cX9_isFreshLike 32 = .ok (.iload_n 1, 1) := by decide +kernel
theorem dX9_isFreshLike_33 : decode cX9_isFreshLike 33 = .ok (.iload_n 3, 1) := by decide +kernel
theorem dX9_isFreshLike_34 : decode cX9_isFreshLike 34 = .ok (.invokevirtual 81, 3) := by decide +kernel
theorem dX9_isFreshLike_37 : decode cX9_isFreshLike 37 = .ok (.aload_n 0, 1) := by decide +kernel
theorem dX9_isFreshLike_38 : decode cX9_isFreshLike 38 = .ok (.getfield 13, 3) := by decide +kernel
theorem dX9_isFreshLike_41 : decode cX9_isFreshLike 41 = .ok (.iload_n 3, 1) := by decide +kernel
theorem dX9_isFreshLike_42 : decode cX9_isFreshLike 42 = .ok (.baload, 1) := by decide +kernel
theorem dX9_isFreshLike_43 : decode cX9_isFreshLike 43 = .ok (.if_icmp .ne 7, 3) := by decide +kernel
theorem dX9_isFreshLike_46 : decode cX9_isFreshLike 46 = .ok (.iconst 1, 1) := by decide +kernel
theorem dX9_isFreshLike_47 : decode cX9_isFreshLike 47 = .ok (.goto 4, 3) := by decide +kernel
theorem dX9_isFreshLike_50 : decode cX9_isFreshLike 50 = .ok (.iconst 0, 1) := by decide +kernel
theorem dX9_isFreshLike_51 : decode cX9_isFreshLike 51 = .ok (.istore_n 2, 1) := by decide +kernel
theorem dX9_isFreshLike_52 : decode cX9_isFreshLike 52 = .ok (.iinc 3 1, 3) := by decide +kernel
theorem dX9_isFreshLike_55 : decode cX9_isFreshLike 55 = .ok (.goto (-35), 3) := by decide +kernel
theorem dX9_isFreshLike_58 : decode cX9_isFreshLike 58 = .ok (.iload_n 2, 1) := by decide +kernel
theorem dX9_isFreshLike_59 : decode cX9_isFreshLike 59 = .ok (.ireturn, 1) := by decide +kernel
theorem dX9_comes_0 : decode cX9_comes 0 = .ok (.aload_n 0, 1) := by decide +kernel
theorem dX9_comes_1 : decode cX9_comes 1 = .ok (.iload_n 1, 1) := by decide +kernel
theorem dX9_comes_2 : decode cX9_comes 2 = .ok (.invokevirtual 91, 3) := by decide +kernel
theorem dX9_comes_5 : decode cX9_comes 5 = .ok (.ifCond .ne 62, 3) := by decide +kernel
theorem dX9_comes_8 : decode cX9_comes 8 = .ok (.aload_n 0, 1) := by decide +kernel
theorem dX9_comes_9 : decode cX9_comes 9 = .ok (.invokevirtual 94, 3) := by decide +kernel
theorem dX9_comes_12 : decode cX9_comes 12 = .ok (.aload_n 0, 1) := by decide +kernel
theorem dX9_comes_13 : decode cX9_comes 13 = .ok (.getfield 9, 3) := by decide +kernel
theorem dX9_comes_16 : decode cX9_comes 16 = .ok (.iload_n 1, 1) := by decide +kernel
theorem dX9_comes_17 : decode cX9_comes 17 = .ok (.invokestatic 71, 3) := by decide +kernel
theorem dX9_comes_20 : decode cX9_comes 20 = .ok (.aload_n 0, 1) := by decide +kernel
theorem dX9_comes_21 : decode cX9_comes 21 = .ok (.getfield 88, 3) := by decide +kernel
theorem dX9_comes_24 : decode cX9_comes 24 = .ok (.iastore, 1) := by decide +kernel
theorem dX9_comes_25 : decode cX9_comes 25 = .ok (.iconst 0, 1) := by decide +kernel
theorem dX9_comes_26 : decode cX9_comes 26 = .ok (.istore_n 2, 1) := by decide +kernel
theorem dX9_comes_27 : decode cX9_comes 27 = .ok (.iload_n 2, 1) := by decide +kernel
theorem dX9_comes_28 : decode cX9_comes 28 = .ok (.sipush 128, 3) := by decide +kernel
theorem dX9_comes_31 : decode cX9_comes 31 = .ok (.if_icmp .ge 36, 3) := by decide +kernel
theorem dX9_comes_34 : decode cX9_comes 34 = .ok (.aload_n 0, 1) := by decide +kernel
theorem dX9_comes_35 : decode cX9_comes 35 = .ok (.getfield 9, 3) := by decide +kernel
theorem dX9_comes_38 : decode cX9_comes 38 = .ok (.iload_n 1, 1) := by decide +kernel
theorem dX9_comes_39 : decode cX9_comes 39 = .ok (.invokestatic 71, 3) := by decide +kernel
theorem dX9_comes_42 : decode cX9_comes 42 = .ok (.iconst 1, 1) := by decide +kernel
theorem dX9_comes_43 : decode cX9_comes 43 = .ok (.iadd, 1) := by decide +kernel
theorem dX9_comes_44 : decode cX9_comes 44 = .ok (.iload_n 2, 1) := by decide +kernel
theorem dX9_comes_45 : decode cX9_comes 45 = .ok (.iadd, 1) := by decide +kernel
theorem dX9_comes_46 : decode cX9_comes 46 = .ok (.aload_n 0, 1) := by decide +kernel
theorem dX9_comes_47 : decode cX9_comes 47 = .ok (.getfield 13, 3) := by decide +kernel
theorem dX9_comes_50 : decode cX9_comes 50 = .ok (.iload_n 2, 1) := by decide +kernel
theorem dX9_comes_51 : decode cX9_comes 51 = .ok (.baload, 1) := by decide +kernel
theorem dX9_comes_52 : decode cX9_comes 52 = .ok (.ifCond .eq 7, 3) := by decide +kernel
theorem dX9_comes_55 : decode cX9_comes 55 = .ok (.iconst 1, 1) := by decide +kernel
theorem dX9_comes_56 : decode cX9_comes 56 = .ok (.goto 4, 3) := by decide +kernel
theorem dX9_comes_59 : decode cX9_comes 59 = .ok (.iconst 0, 1) := by decide +kernel
theorem dX9_comes_60 : decode cX9_comes 60 = .ok (.iastore, 1) := by decide +kernel
theorem dX9_comes_61 : decode cX9_comes 61 = .ok (.iinc 2 1, 3) := by decide +kernel
theorem dX9_comes_64 : decode cX9_comes 64 = .ok (.goto (-37), 3) := by decide +kernel
theorem dX9_comes_67 : decode cX9_comes 67 = .ok (.aload_n 0, 1) := by decide +kernel
theorem dX9_comes_68 : decode cX9_comes 68 = .ok (.iload_n 1, 1) := by decide +kernel
theorem dX9_comes_69 : decode cX9_comes 69 = .ok (.invokevirtual 97, 3) := by decide +kernel
theorem dX9_comes_72 : decode cX9_comes 72 = .ok (.ireturn, 1) := by decide +kernel
theorem dX9_puts4_0 : decode cX9_puts4 0 = .ok (.bipush 24, 2) := by decide +kernel
theorem dX9_puts4_2 : decode cX9_puts4 2 = .ok (.istore_n 2, 1) := by decide +kernel
theorem dX9_puts4_3 : decode cX9_puts4 3 = .ok (.iload_n 2, 1) := by decide +kernel
theorem dX9_puts4_4 : decode cX9_puts4 4 = .ok (.ifCond .lt 32, 3) := by decide +kernel
theorem dX9_puts4_7 : decode cX9_puts4 7 = .ok (.aload_n 0, 1) := by decide +kernel
theorem dX9_puts4_8 : decode cX9_puts4 8 = .ok (.getfield 20, 3) := by decide +kernel
theorem dX9_puts4_11 : decode cX9_puts4 11 = .ok (.aload_n 0, 1) := by decide +kernel
theorem dX9_puts4_12 : decode cX9_puts4 12 = .ok (.getfield 100, 3) := by decide +kernel
theorem dX9_puts4_15 : decode cX9_puts4 15 = .ok (.iload_n 1, 1) := by decide +kernel
theorem dX9_puts4_16 : decode cX9_puts4 16 = .ok (.iload_n 2, 1) := by decide +kernel
theorem dX9_puts4_17 : decode cX9_puts4 17 = .ok (.ishr, 1) := by decide +kernel
theorem dX9_puts4_18 : decode cX9_puts4 18 = .ok (.i2b, 1) := by decide +kernel
theorem dX9_puts4_19 : decode cX9_puts4 19 = .ok (.bastore, 1) := by decide +kernel
theorem dX9_puts4_20 : decode cX9_puts4 20 = .ok (.aload_n 0, 1) := by decide +kernel
theorem dX9_puts4_21 : decode cX9_puts4 21 = .ok (.dup, 1) := by decide +kernel
theorem dX9_puts4_22 : decode cX9_puts4 22 = .ok (.getfield 100, 3) := by decide +kernel
theorem dX9_puts4_25 : decode cX9_puts4 25 = .ok (.iconst 1, 1) := by decide +kernel
theorem dX9_puts4_26 : decode cX9_puts4 26 = .ok (.iadd, 1) := by decide +kernel
theorem dX9_puts4_27 : decode cX9_puts4 27 = .ok (.putfield 100, 3) := by decide +kernel
theorem dX9_puts4_30 : decode cX9_puts4 30 = .ok (.iinc 2 (-8), 3) := by decide +kernel
theorem dX9_puts4_33 : decode cX9_puts4 33 = .ok (.goto (-30), 3) := by decide +kernel
theorem dX9_puts4_36 : decode cX9_puts4 36 = .ok (.return_, 1) := by decide +kernel
theorem dX9_feed_0 : decode cX9_feed 0 = .ok (.aload_n 0, 1) := by decide +kernel
theorem dX9_feed_1 : decode cX9_feed 1 = .ok (.getfield 100, 3) := by decide +kernel
theorem dX9_feed_4 : decode cX9_feed 4 = .ok (.bipush 20, 2) := by decide +kernel
theorem dX9_feed_6 : decode cX9_feed 6 = .ok (.iadd, 1) := by decide +kernel
theorem dX9_feed_7 : decode cX9_feed 7 = .ok (.sipush 800, 3) := by decide +kernel
theorem dX9_feed_10 : decode cX9_feed 10 = .ok (.if_icmp .le 5, 3) := by decide +kernel
theorem dX9_feed_13 : decode cX9_feed 13 = .ok (.iconst (-1), 1) := by decide +kernel
theorem dX9_feed_14 : decode cX9_feed 14 = .ok (.ireturn, 1) := by decide +kernel
theorem dX9_feed_15 : decode cX9_feed 15 = .ok (.aload_n 0, 1) := by decide +kernel
theorem dX9_feed_16 : decode cX9_feed 16 = .ok (.iload_n 1, 1) := by decide +kernel
theorem dX9_feed_17 : decode cX9_feed 17 = .ok (.invokevirtual 103, 3) := by decide +kernel
theorem dX9_feed_20 : decode cX9_feed 20 = .ok (.aload_n 0, 1) := by decide +kernel
theorem dX9_feed_21 : decode cX9_feed 21 = .ok (.iload_n 2, 1) := by decide +kernel
theorem dX9_feed_22 : decode cX9_feed 22 = .ok (.invokevirtual 103, 3) := by decide +kernel
theorem dX9_feed_25 : decode cX9_feed 25 = .ok (.aload_n 0, 1) := by decide +kernel
theorem dX9_feed_26 : decode cX9_feed 26 = .ok (.iload_n 3, 1) := by decide +kernel
theorem dX9_feed_27 : decode cX9_feed 27 = .ok (.invokevirtual 103, 3) := by decide +kernel
theorem dX9_feed_30 : decode cX9_feed 30 = .ok (.aload_n 0, 1) := by decide +kernel
theorem dX9_feed_31 : decode cX9_feed 31 = .ok (.iload 4, 2) := by decide +kernel
theorem dX9_feed_33 : decode cX9_feed 33 = .ok (.invokevirtual 103, 3) := by decide +kernel
theorem dX9_feed_36 : decode cX9_feed 36 = .ok (.aload_n 0, 1) := by decide +kernel
theorem dX9_feed_37 : decode cX9_feed 37 = .ok (.iload 5, 2) := by decide +kernel
theorem dX9_feed_39 : decode cX9_feed 39 = .ok (.invokevirtual 103, 3) := by decide +kernel
theorem dX9_feed_42 : decode cX9_feed 42 = .ok (.aload_n 0, 1) := by decide +kernel
theorem dX9_feed_43 : decode cX9_feed 43 = .ok (.getfield 100, 3) := by decide +kernel
theorem dX9_feed_46 : decode cX9_feed 46 = .ok (.ireturn, 1) := by decide +kernel
theorem dX9_end_0 : decode cX9_end 0 = .ok (.iload_n 1, 1) := by decide +kernel
theorem dX9_end_1 : decode cX9_end 1 = .ok (.i2l, 1) := by decide +kernel
theorem dX9_end_2 : decode cX9_end 2 = .ok (.lconst 0, 1) := by decide +kernel
theorem dX9_end_3 : decode cX9_end 3 = .ok (.aload_n 0, 1) := by decide +kernel
theorem dX9_end_4 : decode cX9_end 4 = .ok (.getfield 100, 3) := by decide +kernel
theorem dX9_end_7 : decode cX9_end 7 = .ok (.i2l, 1) := by decide +kernel
theorem dX9_end_8 : decode cX9_end 8 = .ok (.invokestatic 63, 3) := by decide +kernel
theorem dX9_end_11 : decode cX9_end 11 = .ok (.ifCond .ne 5, 3) := by decide +kernel
theorem dX9_end_14 : decode cX9_end 14 = .ok (.iconst (-1), 1) := by decide +kernel
theorem dX9_end_15 : decode cX9_end 15 = .ok (.ireturn, 1) := by decide +kernel
theorem dX9_end_16 : decode cX9_end 16 = .ok (.aload_n 0, 1) := by decide +kernel
theorem dX9_end_17 : decode cX9_end 17 = .ok (.iload_n 1, 1) := by decide +kernel
theorem dX9_end_18 : decode cX9_end 18 = .ok (.putfield 100, 3) := by decide +kernel
theorem dX9_end_21 : decode cX9_end 21 = .ok (.iload_n 1, 1) := by decide +kernel
theorem dX9_end_22 : decode cX9_end 22 = .ok (.ireturn, 1) := by decide +kernel
theorem dX9_good_0 : decode cX9_good 0 = .ok (.aload_n 0, 1) := by decide +kernel
theorem dX9_good_1 : decode cX9_good 1 = .ok (.getfield 107, 3) := by decide +kernel
theorem dX9_good_4 : decode cX9_good 4 = .ok (.ifCond .ne 7, 3) := by decide +kernel
theorem dX9_good_7 : decode cX9_good 7 = .ok (.iconst 1, 1) := by decide +kernel
theorem dX9_good_8 : decode cX9_good 8 = .ok (.goto 4, 3) := by decide +kernel
theorem dX9_good_11 : decode cX9_good 11 = .ok (.iconst 0, 1) := by decide +kernel
theorem dX9_good_12 : decode cX9_good 12 = .ok (.ireturn, 1) := by decide +kernel
theorem dX9_errs_0 : decode cX9_errs 0 = .ok (.aload_n 0, 1) := by decide +kernel
theorem dX9_errs_1 : decode cX9_errs 1 = .ok (.invokevirtual 110, 3) := by decide +kernel
theorem dX9_errs_4 : decode cX9_errs 4 = .ok (.ifCond .ne 4, 3) := by decide +kernel
theorem dX9_errs_7 : decode cX9_errs 7 = .ok (.return_, 1) := by decide +kernel
theorem dX9_errs_8 : decode cX9_errs 8 = .ok (.aload_n 0, 1) := by decide +kernel
theorem dX9_errs_9 : decode cX9_errs 9 = .ok (.iload_n 1, 1) := by decide +kernel
theorem dX9_errs_10 : decode cX9_errs 10 = .ok (.putfield 107, 3) := by decide +kernel
theorem dX9_errs_13 : decode cX9_errs 13 = .ok (.aload_n 0, 1) := by decide +kernel
theorem dX9_errs_14 : decode cX9_errs 14 = .ok (.iload_n 2, 1) := by decide +kernel
theorem dX9_errs_15 : decode cX9_errs 15 = .ok (.putfield 24, 3) := by decide +kernel
theorem dX9_errs_18 : decode cX9_errs 18 = .ok (.return_, 1) := by decide +kernel
theorem dX9_see_0 : decode cX9_see 0 = .ok (.iload_n 1, 1) := by decide +kernel
theorem dX9_see_1 : decode cX9_see 1 = .ok (.aload_n 0, 1) := by decide +kernel
theorem dX9_see_2 : decode cX9_see 2 = .ok (.getfield 114, 3) := by decide +kernel
theorem dX9_see_5 : decode cX9_see 5 = .ok (.if_icmp .ge 16, 3) := by decide +kernel
theorem dX9_see_8 : decode cX9_see 8 = .ok (.aload_n 0, 1) := by decide +kernel
theorem dX9_see_9 : decode cX9_see 9 = .ok (.getfield 20, 3) := by decide +kernel
theorem dX9_see_12 : decode cX9_see 12 = .ok (.iload_n 1, 1) := by decide +kernel
theorem dX9_see_13 : decode cX9_see 13 = .ok (.baload, 1) := by decide +kernel
theorem dX9_see_14 : decode cX9_see 14 = .ok (.sipush 255, 3) := by decide +kernel
theorem dX9_see_17 : decode cX9_see 17 = .ok (.iand, 1) := by decide +kernel
theorem dX9_see_18 : decode cX9_see 18 = .ok (.goto 4, 3) := by decide +kernel
theorem dX9_see_21 : decode cX9_see 21 = .ok (.iconst (-1), 1) := by decide +kernel
theorem dX9_see_22 : decode cX9_see 22 = .ok (.ireturn, 1) := by decide +kernel
theorem dX9_advance_0 : decode cX9_advance 0 = .ok (.aload_n 0, 1) := by decide +kernel
theorem dX9_advance_1 : decode cX9_advance 1 = .ok (.aload_n 0, 1) := by decide +kernel
theorem dX9_advance_2 : decode cX9_advance 2 = .ok (.getfield 117, 3) := by decide +kernel
theorem dX9_advance_5 : decode cX9_advance 5 = .ok (.invokevirtual 120, 3) := by decide +kernel
theorem dX9_advance_8 : decode cX9_advance 8 = .ok (.bipush 32, 2) := by decide +kernel
theorem dX9_advance_10 : decode cX9_advance 10 = .ok (.if_icmp .eq 16, 3) := by decide +kernel
theorem dX9_advance_13 : decode cX9_advance 13 = .ok (.aload_n 0, 1) := by decide +kernel
theorem dX9_advance_14 : decode cX9_advance 14 = .ok (.aload_n 0, 1) := by decide +kernel
theorem dX9_advance_15 : decode cX9_advance 15 = .ok (.getfield 117, 3) := by decide +kernel
theorem dX9_advance_18 : decode cX9_advance 18 = .ok (.invokevirtual 120, 3) := by decide +kernel
theorem dX9_advance_21 : decode cX9_advance 21 = .ok (.bipush 10, 2) := by decide +kernel
theorem dX9_advance_23 : decode cX9_advance 23 = .ok (.if_icmp .ne 16, 3) := by decide +kernel
theorem dX9_advance_26 : decode cX9_advance 26 = .ok (.aload_n 0, 1) := by decide +kernel
theorem dX9_advance_27 : decode cX9_advance 27 = .ok (.dup, 1) := by decide +kernel
theorem dX9_advance_28 : decode cX9_advance 28 = .ok (.getfield 117, 3) := by decide +kernel
theorem dX9_advance_31 : decode cX9_advance 31 = .ok (.iconst 1, 1) := by decide +kernel
theorem dX9_advance_32 : decode cX9_advance 32 = .ok (.iadd, 1) := by decide +kernel
theorem dX9_advance_33 : decode cX9_advance 33 = .ok (.putfield 117, 3) := by decide +kernel
theorem dX9_advance_36 : decode cX9_advance 36 = .ok (.goto (-36), 3) := by decide +kernel
theorem dX9_advance_39 : decode cX9_advance 39 = .ok (.aload_n 0, 1) := by decide +kernel
theorem dX9_advance_40 : decode cX9_advance 40 = .ok (.aload_n 0, 1) := by decide +kernel
theorem dX9_advance_41 : decode cX9_advance 41 = .ok (.getfield 117, 3) := by decide +kernel
theorem dX9_advance_44 : decode cX9_advance 44 = .ok (.putfield 123, 3) := by decide +kernel
theorem dX9_advance_47 : decode cX9_advance 47 = .ok (.aload_n 0, 1) := by decide +kernel
theorem dX9_advance_48 : decode cX9_advance 48 = .ok (.aload_n 0, 1) := by decide +kernel
theorem dX9_advance_49 : decode cX9_advance 49 = .ok (.getfield 117, 3) := by decide +kernel
theorem dX9_advance_52 : decode cX9_advance 52 = .ok (.invokevirtual 120, 3) := by decide +kernel
theorem dX9_advance_55 : decode cX9_advance 55 = .ok (.istore_n 1, 1) := by decide +kernel
theorem dX9_advance_56 : decode cX9_advance 56 = .ok (.iload_n 1, 1) := by decide +kernel
theorem dX9_advance_57 : decode cX9_advance 57 = .ok (.iconst (-1), 1) := by decide +kernel
theorem dX9_advance_58 : decode cX9_advance 58 = .ok (.if_icmp .ne 11, 3) := by decide +kernel
theorem dX9_advance_61 : decode cX9_advance 61 = .ok (.aload_n 0, 1) := by decide +kernel
theorem dX9_advance_62 : decode cX9_advance 62 = .ok (.iconst 0, 1) := by decide +kernel
theorem dX9_advance_63 : decode cX9_advance 63 = .ok (.putfield 126, 3) := by decide +kernel
theorem dX9_advance_66 : decode cX9_advance 66 = .ok (.goto 169, 3) := by decide +kernel
theorem dX9_advance_69 : decode cX9_advance 69 = .ok (.iload_n 1, 1) := by decide +kernel
theorem dX9_advance_70 : decode cX9_advance 70 = .ok (.i2l, 1) := by decide +kernel
theorem dX9_advance_71 : decode cX9_advance 71 = .ok (.ldc2_w 129, 3) := by decide +kernel
theorem dX9_advance_74 : decode cX9_advance 74 = .ok (.ldc2_w 131, 3) := by decide +kernel
theorem dX9_advance_77 : decode cX9_advance 77 = .ok (.invokestatic 63, 3) := by decide +kernel
theorem dX9_advance_80 : decode cX9_advance 80 = .ok (.ifCond .eq 45, 3) := by decide +kernel
theorem dX9_advance_83 : decode cX9_advance 83 = .ok (.aload_n 0, 1) := by decide +kernel
theorem dX9_advance_84 : decode cX9_advance 84 = .ok (.aload_n 0, 1) := by decide +kernel
theorem dX9_advance_85 : decode cX9_advance 85 = .ok (.getfield 117, 3) := by decide +kernel
theorem dX9_advance_88 : decode cX9_advance 88 = .ok (.invokevirtual 120, 3) := by decide +kernel
theorem dX9_advance_91 : decode cX9_advance 91 = .ok (.i2l, 1) := by decide +kernel
theorem dX9_advance_92 : decode cX9_advance 92 = .ok (.ldc2_w 129, 3) := by decide +kernel
theorem dX9_advance_95 : decode cX9_advance 95 = .ok (.ldc2_w 131, 3) := by decide +kernel
theorem dX9_advance_98 : decode cX9_advance 98 = .ok (.invokestatic 63, 3) := by decide +kernel
theorem dX9_advance_101 : decode cX9_advance 101 = .ok (.ifCond .eq 16, 3) := by decide +kernel
theorem dX9_advance_104 : decode cX9_advance 104 = .ok (.aload_n 0, 1) := by decide +kernel
theorem dX9_advance_105 : decode cX9_advance 105 = .ok (.dup, 1) := by decide +kernel
theorem dX9_advance_106 : decode cX9_advance 106 = .ok (.getfield 117, 3) := by decide +kernel
theorem dX9_advance_109 : decode cX9_advance 109 = .ok (.iconst 1, 1) := by decide +kernel
theorem dX9_advance_110 : decode cX9_advance 110 = .ok (.iadd, 1) := by decide +kernel
theorem dX9_advance_111 : decode cX9_advance 111 = .ok (.putfield 117, 3) := by decide +kernel
theorem dX9_advance_114 : decode cX9_advance 114 = .ok (.goto (-31), 3) := by decide +kernel
theorem dX9_advance_117 : decode cX9_advance 117 = .ok (.aload_n 0, 1) := by decide +kernel
theorem dX9_advance_118 : decode cX9_advance 118 = .ok (.iconst 1, 1) := by decide +kernel
theorem dX9_advance_119 : decode cX9_advance 119 = .ok (.putfield 126, 3) := by decide +kernel
theorem dX9_advance_122 : decode cX9_advance 122 = .ok (.goto 113, 3) := by decide +kernel
theorem dX9_advance_125 : decode cX9_advance 125 = .ok (.iload_n 1, 1) := by decide +kernel
theorem dX9_advance_126 : decode cX9_advance 126 = .ok (.i2l, 1) := by decide +kernel
theorem dX9_advance_127 : decode cX9_advance 127 = .ok (.ldc2_w 133, 3) := by decide +kernel
theorem dX9_advance_130 : decode cX9_advance 130 = .ok (.ldc2_w 135, 3) := by decide +kernel
theorem dX9_advance_133 : decode cX9_advance 133 = .ok (.invokestatic 63, 3) := by decide +kernel
theorem dX9_advance_136 : decode cX9_advance 136 = .ok (.ifCond .eq 79, 3) := by decide +kernel
theorem dX9_advance_139 : decode cX9_advance 139 = .ok (.aload_n 0, 1) := by decide +kernel
theorem dX9_advance_140 : decode cX9_advance 140 = .ok (.iconst 0, 1) := by decide +kernel
theorem dX9_advance_141 : decode cX9_advance 141 = .ok (.putfield 137, 3) := by decide +kernel
theorem dX9_advance_144 : decode cX9_advance 144 = .ok (.aload_n 0, 1) := by decide +kernel
theorem dX9_advance_145 : decode cX9_advance 145 = .ok (.aload_n 0, 1) := by decide +kernel
theorem dX9_advance_146 : decode cX9_advance 146 = .ok (.getfield 117, 3) := by decide +kernel
theorem dX9_advance_149 : decode cX9_advance 149 = .ok (.invokevirtual 120, 3) := by decide +kernel
theorem dX9_advance_152 : decode cX9_advance 152 = .ok (.i2l, 1) := by decide +kernel
theorem dX9_advance_153 : decode cX9_advance 153 = .ok (.ldc2_w 133, 3) := by decide +kernel
theorem dX9_advance_156 : decode cX9_advance 156 = .ok (.ldc2_w 135, 3) := by decide +kernel
theorem dX9_advance_159 : decode cX9_advance 159 = .ok (.invokestatic 63, 3) := by decide +kernel
theorem dX9_advance_162 : decode cX9_advance 162 = .ok (.ifCond .eq 45, 3) := by decide +kernel
theorem dX9_advance_165 : decode cX9_advance 165 = .ok (.aload_n 0, 1) := by decide +kernel
theorem dX9_advance_166 : decode cX9_advance 166 = .ok (.sipush 9999, 3) := by decide +kernel
theorem dX9_advance_169 : decode cX9_advance 169 = .ok (.bipush 10, 2) := by decide +kernel
theorem dX9_advance_171 : decode cX9_advance 171 = .ok (.aload_n 0, 1) := by decide +kernel
theorem dX9_advance_172 : decode cX9_advance 172 = .ok (.getfield 137, 3) := by decide +kernel
theorem dX9_advance_175 : decode cX9_advance 175 = .ok (.imul, 1) := by decide +kernel
theorem dX9_advance_176 : decode cX9_advance 176 = .ok (.aload_n 0, 1) := by decide +kernel
theorem dX9_advance_177 : decode cX9_advance 177 = .ok (.aload_n 0, 1) := by decide +kernel
theorem dX9_advance_178 : decode cX9_advance 178 = .ok (.getfield 117, 3) := by decide +kernel
theorem dX9_advance_181 : decode cX9_advance 181 = .ok (.invokevirtual 120, 3) := by decide +kernel
theorem dX9_advance_184 : decode cX9_advance 184 = .ok (.iadd, 1) := by decide +kernel
theorem dX9_advance_185 : decode cX9_advance 185 = .ok (.bipush 48, 2) := by decide +kernel
theorem dX9_advance_187 : decode cX9_advance 187 = .ok (.isub, 1) := by decide +kernel
theorem dX9_advance_188 : decode cX9_advance 188 = .ok (.invokestatic 140, 3) := by decide +kernel
theorem dX9_advance_191 : decode cX9_advance 191 = .ok (.putfield 137, 3) := by decide +kernel
theorem dX9_advance_194 : decode cX9_advance 194 = .ok (.aload_n 0, 1) := by decide +kernel
theorem dX9_advance_195 : decode cX9_advance 195 = .ok (.dup, 1) := by decide +kernel
theorem dX9_advance_196 : decode cX9_advance 196 = .ok (.getfield 117, 3) := by decide +kernel
theorem dX9_advance_199 : decode cX9_advance 199 = .ok (.iconst 1, 1) := by decide +kernel
theorem dX9_advance_200 : decode cX9_advance 200 = .ok (.iadd, 1) := by decide +kernel
theorem dX9_advance_201 : decode cX9_advance 201 = .ok (.putfield 117, 3) := by decide +kernel
theorem dX9_advance_204 : decode cX9_advance 204 = .ok (.goto (-60), 3) := by decide +kernel
theorem dX9_advance_207 : decode cX9_advance 207 = .ok (.aload_n 0, 1) := by decide +kernel
theorem dX9_advance_208 : decode cX9_advance 208 = .ok (.iconst 2, 1) := by decide +kernel
theorem dX9_advance_209 : decode cX9_advance 209 = .ok (.putfield 126, 3) := by decide +kernel
theorem dX9_advance_212 : decode cX9_advance 212 = .ok (.goto 23, 3) := by decide +kernel
theorem dX9_advance_215 : decode cX9_advance 215 = .ok (.aload_n 0, 1) := by decide +kernel
theorem dX9_advance_216 : decode cX9_advance 216 = .ok (.iconst 3, 1) := by decide +kernel
theorem dX9_advance_217 : decode cX9_advance 217 = .ok (.putfield 126, 3) := by decide +kernel
theorem dX9_advance_220 : decode cX9_advance 220 = .ok (.aload_n 0, 1) := by decide +kernel
theorem dX9_advance_221 : decode cX9_advance 221 = .ok (.iload_n 1, 1) := by decide +kernel
theorem dX9_advance_222 : decode cX9_advance 222 = .ok (.putfield 137, 3) := by decide +kernel
theorem dX9_advance_225 : decode cX9_advance 225 = .ok (.aload_n 0, 1) := by decide +kernel
theorem dX9_advance_226 : decode cX9_advance 226 = .ok (.dup, 1) := by decide +kernel
theorem dX9_advance_227 : decode cX9_advance 227 = .ok (.getfield 117, 3) := by decide +kernel
theorem dX9_advance_230 : decode cX9_advance 230 = .ok (.iconst 1, 1) := by decide +kernel
theorem dX9_advance_231 : decode cX9_advance 231 = .ok (.iadd, 1) := by decide +kernel
theorem dX9_advance_232 : decode cX9_advance 232 = .ok (.putfield 117, 3) := by decide +kernel
theorem dX9_advance_235 : decode cX9_advance 235 = .ok (.return_, 1) := by decide +kernel
theorem dX9_isWord_0 : decode cX9_isWord 0 = .ok (.aload_n 0, 1) := by decide +kernel
theorem dX9_isWord_1 : decode cX9_isWord 1 = .ok (.invokevirtual 110, 3) := by decide +kernel
theorem dX9_isWord_4 : decode cX9_isWord 4 = .ok (.ifCond .eq 31, 3) := by decide +kernel
theorem dX9_isWord_7 : decode cX9_isWord 7 = .ok (.aload_n 0, 1) := by decide +kernel
theorem dX9_isWord_8 : decode cX9_isWord 8 = .ok (.getfield 126, 3) := by decide +kernel
theorem dX9_isWord_11 : decode cX9_isWord 11 = .ok (.iconst 1, 1) := by decide +kernel
theorem dX9_isWord_12 : decode cX9_isWord 12 = .ok (.if_icmp .ne 23, 3) := by decide +kernel
theorem dX9_isWord_15 : decode cX9_isWord 15 = .ok (.aload_n 0, 1) := by decide +kernel
theorem dX9_isWord_16 : decode cX9_isWord 16 = .ok (.getfield 117, 3) := by decide +kernel
theorem dX9_isWord_19 : decode cX9_isWord 19 = .ok (.aload_n 0, 1) := by decide +kernel
theorem dX9_isWord_20 : decode cX9_isWord 20 = .ok (.getfield 123, 3) := by decide +kernel
theorem dX9_isWord_23 : decode cX9_isWord 23 = .ok (.isub, 1) := by decide +kernel
theorem dX9_isWord_24 : decode cX9_isWord 24 = .ok (.aload_n 1, 1) := by decide +kernel
theorem dX9_isWord_25 : decode cX9_isWord 25 = .ok (.invokevirtual 146, 3) := by decide +kernel
theorem dX9_isWord_28 : decode cX9_isWord 28 = .ok (.if_icmp .ne 7, 3) := by decide +kernel
theorem dX9_isWord_31 : decode cX9_isWord 31 = .ok (.iconst 1, 1) := by decide +kernel
theorem dX9_isWord_32 : decode cX9_isWord 32 = .ok (.goto 4, 3) := by decide +kernel
theorem dX9_isWord_35 : decode cX9_isWord 35 = .ok (.iconst 0, 1) := by decide +kernel
theorem dX9_isWord_36 : decode cX9_isWord 36 = .ok (.istore_n 2, 1) := by decide +kernel
theorem dX9_isWord_37 : decode cX9_isWord 37 = .ok (.iconst 0, 1) := by decide +kernel
theorem dX9_isWord_38 : decode cX9_isWord 38 = .ok (.istore_n 3, 1) := by decide +kernel
theorem dX9_isWord_39 : decode cX9_isWord 39 = .ok (.iload_n 3, 1) := by decide +kernel
theorem dX9_isWord_40 : decode cX9_isWord 40 = .ok (.aload_n 1, 1) := by decide +kernel
theorem dX9_isWord_41 : decode cX9_isWord 41 = .ok (.invokevirtual 146, 3) := by decide +kernel
theorem dX9_isWord_44 : decode cX9_isWord 44 = .ok (.if_icmp .ge 38, 3) := by decide +kernel
theorem dX9_isWord_47 : decode cX9_isWord 47 = .ok (.iload_n 2, 1) := by decide +kernel
theorem dX9_isWord_48 : decode cX9_isWord 48 = .ok (.ifCond .eq 34, 3) := by decide +kernel
theorem dX9_isWord_51 : decode cX9_isWord 51 = .ok (.aload_n 0, 1) := by decide +kernel
theorem dX9_isWord_52 : decode cX9_isWord 52 = .ok (.getfield 20, 3) := by decide +kernel
theorem dX9_isWord_55 : decode cX9_isWord 55 = .ok (.aload_n 0, 1) := by decide +kernel
theorem dX9_isWord_56 : decode cX9_isWord 56 = .ok (.getfield 123, 3) := by decide +kernel
theorem dX9_isWord_59 : decode cX9_isWord 59 = .ok (.iload_n 3, 1) := by decide +kernel
theorem dX9_isWord_60 : decode cX9_isWord 60 = .ok (.iadd, 1) := by decide +kernel
theorem dX9_isWord_61 : decode cX9_isWord 61 = .ok (.baload, 1) := by decide +kernel
theorem dX9_isWord_62 : decode cX9_isWord 62 = .ok (.aload_n 1, 1) := by decide +kernel
theorem dX9_isWord_63 : decode cX9_isWord 63 = .ok (.iload_n 3, 1) := by decide +kernel
theorem dX9_isWord_64 : decode cX9_isWord 64 = .ok (.invokevirtual 152, 3) := by decide +kernel
theorem dX9_isWord_67 : decode cX9_isWord 67 = .ok (.if_icmp .ne 7, 3) := by decide +kernel
theorem dX9_isWord_70 : decode cX9_isWord 70 = .ok (.iconst 1, 1) := by decide +kernel
theorem dX9_isWord_71 : decode cX9_isWord 71 = .ok (.goto 4, 3) := by decide +kernel
theorem dX9_isWord_74 : decode cX9_isWord 74 = .ok (.iconst 0, 1) := by decide +kernel
theorem dX9_isWord_75 : decode cX9_isWord 75 = .ok (.istore_n 2, 1) := by decide +kernel
theorem dX9_isWord_76 : decode cX9_isWord 76 = .ok (.iinc 3 1, 3) := by decide +kernel
theorem dX9_isWord_79 : decode cX9_isWord 79 = .ok (.goto (-40), 3) := by decide +kernel
theorem dX9_isWord_82 : decode cX9_isWord 82 = .ok (.iload_n 2, 1) := by decide +kernel
theorem dX9_isWord_83 : decode cX9_isWord 83 = .ok (.ireturn, 1) := by decide +kernel
theorem dX9_eatsByte_0 : decode cX9_eatsByte 0 = .ok (.aload_n 0, 1) := by decide +kernel
theorem dX9_eatsByte_1 : decode cX9_eatsByte 1 = .ok (.invokevirtual 110, 3) := by decide +kernel
theorem dX9_eatsByte_4 : decode cX9_eatsByte 4 = .ok (.ifCond .eq 19, 3) := by decide +kernel
theorem dX9_eatsByte_7 : decode cX9_eatsByte 7 = .ok (.aload_n 0, 1) := by decide +kernel
theorem dX9_eatsByte_8 : decode cX9_eatsByte 8 = .ok (.getfield 126, 3) := by decide +kernel
theorem dX9_eatsByte_11 : decode cX9_eatsByte 11 = .ok (.iconst 3, 1) := by decide +kernel
theorem dX9_eatsByte_12 : decode cX9_eatsByte 12 = .ok (.if_icmp .ne 11, 3) := by decide +kernel
theorem dX9_eatsByte_15 : decode cX9_eatsByte 15 = .ok (.aload_n 0, 1) := by decide +kernel
theorem dX9_eatsByte_16 : decode cX9_eatsByte 16 = .ok (.getfield 137, 3) := by decide +kernel
theorem dX9_eatsByte_19 : decode cX9_eatsByte 19 = .ok (.iload_n 1, 1) := by decide +kernel
theorem dX9_eatsByte_20 : decode cX9_eatsByte 20 = .ok (.if_icmp .eq 5, 3) := by decide +kernel
theorem dX9_eatsByte_23 : decode cX9_eatsByte 23 = .ok (.iconst 0, 1) := by decide +kernel
theorem dX9_eatsByte_24 : decode cX9_eatsByte 24 = .ok (.ireturn, 1) := by decide +kernel
theorem dX9_eatsByte_25 : decode cX9_eatsByte 25 = .ok (.aload_n 0, 1) := by decide +kernel
theorem dX9_eatsByte_26 : decode cX9_eatsByte 26 = .ok (.invokevirtual 156, 3) := by decide +kernel
theorem dX9_eatsByte_29 : decode cX9_eatsByte 29 = .ok (.iconst 1, 1) := by decide +kernel
theorem dX9_eatsByte_30 : decode cX9_eatsByte 30 = .ok (.ireturn, 1) := by decide +kernel
theorem dX9_readSet_0 : decode cX9_readSet 0 = .ok (.aload_n 0, 1) := by decide +kernel
theorem dX9_readSet_1 : decode cX9_readSet 1 = .ok (.ldc 159, 2) := by decide +kernel
theorem dX9_readSet_3 : decode cX9_readSet 3 = .ok (.invokevirtual 161, 3) := by decide +kernel
theorem dX9_readSet_6 : decode cX9_readSet 6 = .ok (.istore_n 1, 1) := by decide +kernel
theorem dX9_readSet_7 : decode cX9_readSet 7 = .ok (.aload_n 0, 1) := by decide +kernel
theorem dX9_readSet_8 : decode cX9_readSet 8 = .ok (.invokevirtual 110, 3) := by decide +kernel
theorem dX9_readSet_11 : decode cX9_readSet 11 = .ok (.ifCond .eq 24, 3) := by decide +kernel
theorem dX9_readSet_14 : decode cX9_readSet 14 = .ok (.iload_n 1, 1) := by decide +kernel
theorem dX9_readSet_15 : decode cX9_readSet 15 = .ok (.ifCond .ne 20, 3) := by decide +kernel
theorem dX9_readSet_18 : decode cX9_readSet 18 = .ok (.aload_n 0, 1) := by decide +kernel
theorem dX9_readSet_19 : decode cX9_readSet 19 = .ok (.getfield 126, 3) := by decide +kernel
theorem dX9_readSet_22 : decode cX9_readSet 22 = .ok (.iconst 2, 1) := by decide +kernel
theorem dX9_readSet_23 : decode cX9_readSet 23 = .ok (.if_icmp .eq 12, 3) := by decide +kernel
theorem dX9_readSet_26 : decode cX9_readSet 26 = .ok (.aload_n 0, 1) := by decide +kernel
theorem dX9_readSet_27 : decode cX9_readSet 27 = .ok (.iconst 1, 1) := by decide +kernel
theorem dX9_readSet_28 : decode cX9_readSet 28 = .ok (.aload_n 0, 1) := by decide +kernel
theorem dX9_readSet_29 : decode cX9_readSet 29 = .ok (.getfield 123, 3) := by decide +kernel
theorem dX9_readSet_32 : decode cX9_readSet 32 = .ok (.invokevirtual 165, 3) := by decide +kernel
theorem dX9_readSet_35 : decode cX9_readSet 35 = .ok (.iconst 0, 1) := by decide +kernel
theorem dX9_readSet_36 : decode cX9_readSet 36 = .ok (.istore_n 2, 1) := by decide +kernel
theorem dX9_readSet_37 : decode cX9_readSet 37 = .ok (.aload_n 0, 1) := by decide +kernel
theorem dX9_readSet_38 : decode cX9_readSet 38 = .ok (.getfield 123, 3) := by decide +kernel
theorem dX9_readSet_41 : decode cX9_readSet 41 = .ok (.istore_n 3, 1) := by decide +kernel
theorem dX9_readSet_42 : decode cX9_readSet 42 = .ok (.iload_n 3, 1) := by decide +kernel
theorem dX9_readSet_43 : decode cX9_readSet 43 = .ok (.aload_n 0, 1) := by decide +kernel
theorem dX9_readSet_44 : decode cX9_readSet 44 = .ok (.getfield 117, 3) := by decide +kernel
theorem dX9_readSet_47 : decode cX9_readSet 47 = .ok (.if_icmp .ge 68, 3) := by decide +kernel
theorem dX9_readSet_50 : decode cX9_readSet 50 = .ok (.aload_n 0, 1) := by decide +kernel
theorem dX9_readSet_51 : decode cX9_readSet 51 = .ok (.invokevirtual 110, 3) := by decide +kernel
theorem dX9_readSet_54 : decode cX9_readSet 54 = .ok (.ifCond .eq 61, 3) := by decide +kernel
theorem dX9_readSet_57 : decode cX9_readSet 57 = .ok (.iload_n 1, 1) := by decide +kernel
theorem dX9_readSet_58 : decode cX9_readSet 58 = .ok (.ifCond .ne 57, 3) := by decide +kernel
theorem dX9_readSet_61 : decode cX9_readSet 61 = .ok (.aload_n 0, 1) := by decide +kernel
theorem dX9_readSet_62 : decode cX9_readSet 62 = .ok (.iload_n 3, 1) := by decide +kernel
theorem dX9_readSet_63 : decode cX9_readSet 63 = .ok (.invokevirtual 120, 3) := by decide +kernel
theorem dX9_readSet_66 : decode cX9_readSet 66 = .ok (.bipush 48, 2) := by decide +kernel
theorem dX9_readSet_68 : decode cX9_readSet 68 = .ok (.isub, 1) := by decide +kernel
theorem dX9_readSet_69 : decode cX9_readSet 69 = .ok (.istore 4, 2) := by decide +kernel
theorem dX9_readSet_71 : decode cX9_readSet 71 = .ok (.iload 4, 2) := by decide +kernel
theorem dX9_readSet_73 : decode cX9_readSet 73 = .ok (.aload_n 0, 1) := by decide +kernel
theorem dX9_readSet_74 : decode cX9_readSet 74 = .ok (.getfield 88, 3) := by decide +kernel
theorem dX9_readSet_77 : decode cX9_readSet 77 = .ok (.if_icmp .ge 12, 3) := by decide +kernel
theorem dX9_readSet_80 : decode cX9_readSet 80 = .ok (.iload_n 2, 1) := by decide +kernel
theorem dX9_readSet_81 : decode cX9_readSet 81 = .ok (.iload 4, 2) := by decide +kernel
theorem dX9_readSet_83 : decode cX9_readSet 83 = .ok (.invokestatic 169, 3) := by decide +kernel
theorem dX9_readSet_86 : decode cX9_readSet 86 = .ok (.ifCond .eq 9, 3) := by decide +kernel
theorem dX9_readSet_89 : decode cX9_readSet 89 = .ok (.aload_n 0, 1) := by decide +kernel
theorem dX9_readSet_90 : decode cX9_readSet 90 = .ok (.iconst 3, 1) := by decide +kernel
theorem dX9_readSet_91 : decode cX9_readSet 91 = .ok (.iload_n 3, 1) := by decide +kernel
theorem dX9_readSet_92 : decode cX9_readSet 92 = .ok (.invokevirtual 165, 3) := by decide +kernel
theorem dX9_readSet_95 : decode cX9_readSet 95 = .ok (.aload_n 0, 1) := by decide +kernel
theorem dX9_readSet_96 : decode cX9_readSet 96 = .ok (.invokevirtual 110, 3) := by decide +kernel
theorem dX9_readSet_99 : decode cX9_readSet 99 = .ok (.ifCond .eq 10, 3) := by decide +kernel
theorem dX9_readSet_102 : decode cX9_readSet 102 = .ok (.iload_n 2, 1) := by decide +kernel
theorem dX9_readSet_103 : decode cX9_readSet 103 = .ok (.iconst 1, 1) := by decide +kernel
theorem dX9_readSet_104 : decode cX9_readSet 104 = .ok (.iload 4, 2) := by decide +kernel
theorem dX9_readSet_106 : decode cX9_readSet 106 = .ok (.ishl, 1) := by decide +kernel
theorem dX9_readSet_107 : decode cX9_readSet 107 = .ok (.ior, 1) := by decide +kernel
theorem dX9_readSet_108 : decode cX9_readSet 108 = .ok (.istore_n 2, 1) := by decide +kernel
theorem dX9_readSet_109 : decode cX9_readSet 109 = .ok (.iinc 3 1, 3) := by decide +kernel
theorem dX9_readSet_112 : decode cX9_readSet 112 = .ok (.goto (-70), 3) := by decide +kernel
theorem dX9_readSet_115 : decode cX9_readSet 115 = .ok (.aload_n 0, 1) := by decide +kernel
theorem dX9_readSet_116 : decode cX9_readSet 116 = .ok (.invokevirtual 110, 3) := by decide +kernel
theorem dX9_readSet_119 : decode cX9_readSet 119 = .ok (.ifCond .eq 21, 3) := by decide +kernel
theorem dX9_readSet_122 : decode cX9_readSet 122 = .ok (.aload_n 0, 1) := by decide +kernel
theorem dX9_readSet_123 : decode cX9_readSet 123 = .ok (.getfield 13, 3) := by decide +kernel
theorem dX9_readSet_126 : decode cX9_readSet 126 = .ok (.iload_n 2, 1) := by decide +kernel
theorem dX9_readSet_127 : decode cX9_readSet 127 = .ok (.baload, 1) := by decide +kernel
theorem dX9_readSet_128 : decode cX9_readSet 128 = .ok (.ifCond .eq 12, 3) := by decide +kernel
theorem dX9_readSet_131 : decode cX9_readSet 131 = .ok (.aload_n 0, 1) := by decide +kernel
theorem dX9_readSet_132 : decode cX9_readSet 132 = .ok (.iconst 4, 1) := by decide +kernel
theorem dX9_readSet_133 : decode cX9_readSet 133 = .ok (.aload_n 0, 1) := by decide +kernel
theorem dX9_readSet_134 : decode cX9_readSet 134 = .ok (.getfield 123, 3) := by decide +kernel
theorem dX9_readSet_137 : decode cX9_readSet 137 = .ok (.invokevirtual 165, 3) := by decide +kernel
theorem dX9_readSet_140 : decode cX9_readSet 140 = .ok (.aload_n 0, 1) := by decide +kernel
theorem dX9_readSet_141 : decode cX9_readSet 141 = .ok (.invokevirtual 110, 3) := by decide +kernel
theorem dX9_readSet_144 : decode cX9_readSet 144 = .ok (.ifCond .ne 4, 3) := by decide +kernel
theorem dX9_readSet_147 : decode cX9_readSet 147 = .ok (.return_, 1) := by decide +kernel
theorem dX9_readSet_148 : decode cX9_readSet 148 = .ok (.aload_n 0, 1) := by decide +kernel
theorem dX9_readSet_149 : decode cX9_readSet 149 = .ok (.getfield 13, 3) := by decide +kernel
theorem dX9_readSet_152 : decode cX9_readSet 152 = .ok (.iload_n 2, 1) := by decide +kernel
theorem dX9_readSet_153 : decode cX9_readSet 153 = .ok (.iconst 1, 1) := by decide +kernel
theorem dX9_readSet_154 : decode cX9_readSet 154 = .ok (.bastore, 1) := by decide +kernel
theorem dX9_readSet_155 : decode cX9_readSet 155 = .ok (.aload_n 0, 1) := by decide +kernel
theorem dX9_readSet_156 : decode cX9_readSet 156 = .ok (.invokevirtual 156, 3) := by decide +kernel
theorem dX9_readSet_159 : decode cX9_readSet 159 = .ok (.return_, 1) := by decide +kernel
theorem dX9_read_0 : decode cX9_read 0 = .ok (.aload_n 0, 1) := by decide +kernel
theorem dX9_read_1 : decode cX9_read 1 = .ok (.invokevirtual 156, 3) := by decide +kernel
theorem dX9_read_4 : decode cX9_read 4 = .ok (.aload_n 0, 1) := by decide +kernel
theorem dX9_read_5 : decode cX9_read 5 = .ok (.ldc 172, 2) := by decide +kernel
theorem dX9_read_7 : decode cX9_read 7 = .ok (.invokevirtual 161, 3) := by decide +kernel
theorem dX9_read_10 : decode cX9_read 10 = .ok (.ifCond .ne 12, 3) := by decide +kernel
theorem dX9_read_13 : decode cX9_read 13 = .ok (.aload_n 0, 1) := by decide +kernel
theorem dX9_read_14 : decode cX9_read 14 = .ok (.iconst 1, 1) := by decide +kernel
theorem dX9_read_15 : decode cX9_read 15 = .ok (.aload_n 0, 1) := by decide +kernel
theorem dX9_read_16 : decode cX9_read 16 = .ok (.getfield 123, 3) := by decide +kernel
theorem dX9_read_19 : decode cX9_read 19 = .ok (.invokevirtual 165, 3) := by decide +kernel
theorem dX9_read_22 : decode cX9_read 22 = .ok (.aload_n 0, 1) := by decide +kernel
theorem dX9_read_23 : decode cX9_read 23 = .ok (.invokevirtual 110, 3) := by decide +kernel
theorem dX9_read_26 : decode cX9_read 26 = .ok (.ifCond .eq 7, 3) := by decide +kernel
theorem dX9_read_29 : decode cX9_read 29 = .ok (.aload_n 0, 1) := by decide +kernel
theorem dX9_read_30 : decode cX9_read 30 = .ok (.invokevirtual 156, 3) := by decide +kernel
theorem dX9_read_33 : decode cX9_read 33 = .ok (.aload_n 0, 1) := by decide +kernel
theorem dX9_read_34 : decode cX9_read 34 = .ok (.invokevirtual 110, 3) := by decide +kernel
theorem dX9_read_37 : decode cX9_read 37 = .ok (.ifCond .eq 20, 3) := by decide +kernel
theorem dX9_read_40 : decode cX9_read 40 = .ok (.aload_n 0, 1) := by decide +kernel
theorem dX9_read_41 : decode cX9_read 41 = .ok (.getfield 126, 3) := by decide +kernel
theorem dX9_read_44 : decode cX9_read 44 = .ok (.iconst 2, 1) := by decide +kernel
theorem dX9_read_45 : decode cX9_read 45 = .ok (.if_icmp .eq 12, 3) := by decide +kernel
theorem dX9_read_48 : decode cX9_read 48 = .ok (.aload_n 0, 1) := by decide +kernel
theorem dX9_read_49 : decode cX9_read 49 = .ok (.iconst 1, 1) := by decide +kernel
theorem dX9_read_50 : decode cX9_read 50 = .ok (.aload_n 0, 1) := by decide +kernel
theorem dX9_read_51 : decode cX9_read 51 = .ok (.getfield 123, 3) := by decide +kernel
theorem dX9_read_54 : decode cX9_read 54 = .ok (.invokevirtual 165, 3) := by decide +kernel
theorem dX9_read_57 : decode cX9_read 57 = .ok (.aload_n 0, 1) := by decide +kernel
theorem dX9_read_58 : decode cX9_read 58 = .ok (.invokevirtual 110, 3) := by decide +kernel
theorem dX9_read_61 : decode cX9_read 61 = .ok (.ifCond .eq 27, 3) := by decide +kernel
theorem dX9_read_64 : decode cX9_read 64 = .ok (.aload_n 0, 1) := by decide +kernel
theorem dX9_read_65 : decode cX9_read 65 = .ok (.getfield 137, 3) := by decide +kernel
theorem dX9_read_68 : decode cX9_read 68 = .ok (.i2l, 1) := by decide +kernel
theorem dX9_read_69 : decode cX9_read 69 = .ok (.lconst 1, 1) := by decide +kernel
theorem dX9_read_70 : decode cX9_read 70 = .ok (.ldc2_w 174, 3) := by decide +kernel
theorem dX9_read_73 : decode cX9_read 73 = .ok (.invokestatic 63, 3) := by decide +kernel
theorem dX9_read_76 : decode cX9_read 76 = .ok (.ifCond .ne 12, 3) := by decide +kernel
theorem dX9_read_79 : decode cX9_read 79 = .ok (.aload_n 0, 1) := by decide +kernel
theorem dX9_read_80 : decode cX9_read 80 = .ok (.iconst 2, 1) := by decide +kernel
theorem dX9_read_81 : decode cX9_read 81 = .ok (.aload_n 0, 1) := by decide +kernel
theorem dX9_read_82 : decode cX9_read 82 = .ok (.getfield 123, 3) := by decide +kernel
theorem dX9_read_85 : decode cX9_read 85 = .ok (.invokevirtual 165, 3) := by decide +kernel
theorem dX9_read_88 : decode cX9_read 88 = .ok (.aload_n 0, 1) := by decide +kernel
theorem dX9_read_89 : decode cX9_read 89 = .ok (.aload_n 0, 1) := by decide +kernel
theorem dX9_read_90 : decode cX9_read 90 = .ok (.getfield 137, 3) := by decide +kernel
theorem dX9_read_93 : decode cX9_read 93 = .ok (.invokevirtual 176, 3) := by decide +kernel
theorem dX9_read_96 : decode cX9_read 96 = .ok (.aload_n 0, 1) := by decide +kernel
theorem dX9_read_97 : decode cX9_read 97 = .ok (.invokevirtual 110, 3) := by decide +kernel
theorem dX9_read_100 : decode cX9_read 100 = .ok (.ifCond .eq 7, 3) := by decide +kernel
theorem dX9_read_103 : decode cX9_read 103 = .ok (.aload_n 0, 1) := by decide +kernel
theorem dX9_read_104 : decode cX9_read 104 = .ok (.invokevirtual 156, 3) := by decide +kernel
theorem dX9_read_107 : decode cX9_read 107 = .ok (.aload_n 0, 1) := by decide +kernel
theorem dX9_read_108 : decode cX9_read 108 = .ok (.bipush 58, 2) := by decide +kernel
theorem dX9_read_110 : decode cX9_read 110 = .ok (.invokevirtual 179, 3) := by decide +kernel
theorem dX9_read_113 : decode cX9_read 113 = .ok (.ifCond .eq 16, 3) := by decide +kernel
theorem dX9_read_116 : decode cX9_read 116 = .ok (.aload_n 0, 1) := by decide +kernel
theorem dX9_read_117 : decode cX9_read 117 = .ok (.invokevirtual 182, 3) := by decide +kernel
theorem dX9_read_120 : decode cX9_read 120 = .ok (.aload_n 0, 1) := by decide +kernel
theorem dX9_read_121 : decode cX9_read 121 = .ok (.bipush 44, 2) := by decide +kernel
theorem dX9_read_123 : decode cX9_read 123 = .ok (.invokevirtual 179, 3) := by decide +kernel
theorem dX9_read_126 : decode cX9_read 126 = .ok (.ifCond .ne (-10), 3) := by decide +kernel
theorem dX9_read_129 : decode cX9_read 129 = .ok (.aload_n 0, 1) := by decide +kernel
theorem dX9_read_130 : decode cX9_read 130 = .ok (.bipush 59, 2) := by decide +kernel
theorem dX9_read_132 : decode cX9_read 132 = .ok (.invokevirtual 179, 3) := by decide +kernel
theorem dX9_read_135 : decode cX9_read 135 = .ok (.ifCond .ne 12, 3) := by decide +kernel
theorem dX9_read_138 : decode cX9_read 138 = .ok (.aload_n 0, 1) := by decide +kernel
theorem dX9_read_139 : decode cX9_read 139 = .ok (.iconst 1, 1) := by decide +kernel
theorem dX9_read_140 : decode cX9_read 140 = .ok (.aload_n 0, 1) := by decide +kernel
theorem dX9_read_141 : decode cX9_read 141 = .ok (.getfield 123, 3) := by decide +kernel
theorem dX9_read_144 : decode cX9_read 144 = .ok (.invokevirtual 165, 3) := by decide +kernel
theorem dX9_read_147 : decode cX9_read 147 = .ok (.aload_n 0, 1) := by decide +kernel
theorem dX9_read_148 : decode cX9_read 148 = .ok (.invokevirtual 110, 3) := by decide +kernel
theorem dX9_read_151 : decode cX9_read 151 = .ok (.ifCond .eq 19, 3) := by decide +kernel
theorem dX9_read_154 : decode cX9_read 154 = .ok (.aload_n 0, 1) := by decide +kernel
theorem dX9_read_155 : decode cX9_read 155 = .ok (.getfield 126, 3) := by decide +kernel
theorem dX9_read_158 : decode cX9_read 158 = .ok (.ifCond .eq 12, 3) := by decide +kernel
theorem dX9_read_161 : decode cX9_read 161 = .ok (.aload_n 0, 1) := by decide +kernel
theorem dX9_read_162 : decode cX9_read 162 = .ok (.iconst 1, 1) := by decide +kernel
theorem dX9_read_163 : decode cX9_read 163 = .ok (.aload_n 0, 1) := by decide +kernel
theorem dX9_read_164 : decode cX9_read 164 = .ok (.getfield 123, 3) := by decide +kernel
theorem dX9_read_167 : decode cX9_read 167 = .ok (.invokevirtual 165, 3) := by decide +kernel
theorem dX9_read_170 : decode cX9_read 170 = .ok (.return_, 1) := by decide +kernel
theorem dX9_told_0 : decode cX9_told 0 = .ok (.iload_n 1, 1) := by decide +kernel
theorem dX9_told_1 : decode cX9_told 1 = .ok (.invokestatic 67, 3) := by decide +kernel
theorem dX9_told_4 : decode cX9_told 4 = .ok (.ifCond .ne 6, 3) := by decide +kernel
theorem dX9_told_7 : decode cX9_told 7 = .ok (.bipush (-2), 2) := by decide +kernel
theorem dX9_told_9 : decode cX9_told 9 = .ok (.ireturn, 1) := by decide +kernel
theorem dX9_told_10 : decode cX9_told 10 = .ok (.aload_n 0, 1) := by decide +kernel
theorem dX9_told_11 : decode cX9_told 11 = .ok (.aload_n 0, 1) := by decide +kernel
theorem dX9_told_12 : decode cX9_told 12 = .ok (.getfield 100, 3) := by decide +kernel
theorem dX9_told_15 : decode cX9_told 15 = .ok (.putfield 114, 3) := by decide +kernel
theorem dX9_told_18 : decode cX9_told 18 = .ok (.aload_n 0, 1) := by decide +kernel
theorem dX9_told_19 : decode cX9_told 19 = .ok (.iconst 0, 1) := by decide +kernel
theorem dX9_told_20 : decode cX9_told 20 = .ok (.putfield 100, 3) := by decide +kernel
theorem dX9_told_23 : decode cX9_told 23 = .ok (.aload_n 0, 1) := by decide +kernel
theorem dX9_told_24 : decode cX9_told 24 = .ok (.iconst 0, 1) := by decide +kernel
theorem dX9_told_25 : decode cX9_told 25 = .ok (.putfield 117, 3) := by decide +kernel
theorem dX9_told_28 : decode cX9_told 28 = .ok (.aload_n 0, 1) := by decide +kernel
theorem dX9_told_29 : decode cX9_told 29 = .ok (.iconst 0, 1) := by decide +kernel
theorem dX9_told_30 : decode cX9_told 30 = .ok (.putfield 107, 3) := by decide +kernel
theorem dX9_told_33 : decode cX9_told 33 = .ok (.aload_n 0, 1) := by decide +kernel
theorem dX9_told_34 : decode cX9_told 34 = .ok (.iconst (-1), 1) := by decide +kernel
theorem dX9_told_35 : decode cX9_told 35 = .ok (.putfield 24, 3) := by decide +kernel
theorem dX9_told_38 : decode cX9_told 38 = .ok (.aload_n 0, 1) := by decide +kernel
theorem dX9_told_39 : decode cX9_told 39 = .ok (.invokevirtual 185, 3) := by decide +kernel
theorem dX9_told_42 : decode cX9_told 42 = .ok (.aload_n 0, 1) := by decide +kernel
theorem dX9_told_43 : decode cX9_told 43 = .ok (.invokevirtual 110, 3) := by decide +kernel
theorem dX9_told_46 : decode cX9_told 46 = .ok (.ifCond .eq 11, 3) := by decide +kernel
theorem dX9_told_49 : decode cX9_told 49 = .ok (.aload_n 0, 1) := by decide +kernel
theorem dX9_told_50 : decode cX9_told 50 = .ok (.iload_n 1, 1) := by decide +kernel
theorem dX9_told_51 : decode cX9_told 51 = .ok (.invokevirtual 188, 3) := by decide +kernel
theorem dX9_told_54 : decode cX9_told 54 = .ok (.goto 5, 3) := by decide +kernel
theorem dX9_told_57 : decode cX9_told 57 = .ok (.bipush (-4), 2) := by decide +kernel
theorem dX9_told_59 : decode cX9_told 59 = .ok (.ireturn, 1) := by decide +kernel
theorem dX9_fault_0 : decode cX9_fault 0 = .ok (.iload_n 1, 1) := by decide +kernel
theorem dX9_fault_1 : decode cX9_fault 1 = .ok (.ifCond .ne 10, 3) := by decide +kernel
theorem dX9_fault_4 : decode cX9_fault 4 = .ok (.aload_n 0, 1) := by decide +kernel
theorem dX9_fault_5 : decode cX9_fault 5 = .ok (.getfield 107, 3) := by decide +kernel
theorem dX9_fault_8 : decode cX9_fault 8 = .ok (.goto 16, 3) := by decide +kernel
theorem dX9_fault_11 : decode cX9_fault 11 = .ok (.iload_n 1, 1) := by decide +kernel
theorem dX9_fault_12 : decode cX9_fault 12 = .ok (.iconst 1, 1) := by decide +kernel
theorem dX9_fault_13 : decode cX9_fault 13 = .ok (.if_icmp .ne 10, 3) := by decide +kernel
theorem dX9_fault_16 : decode cX9_fault 16 = .ok (.aload_n 0, 1) := by decide +kernel
theorem dX9_fault_17 : decode cX9_fault 17 = .ok (.getfield 24, 3) := by decide +kernel
theorem dX9_fault_20 : decode cX9_fault 20 = .ok (.goto 4, 3) := by decide +kernel
theorem dX9_fault_23 : decode cX9_fault 23 = .ok (.iconst (-1), 1) := by decide +kernel
theorem dX9_fault_24 : decode cX9_fault 24 = .ok (.ireturn, 1) := by decide +kernel
theorem dX9_count_0 : decode cX9_count 0 = .ok (.iconst 0, 1) := by decide +kernel
theorem dX9_count_1 : decode cX9_count 1 = .ok (.istore_n 2, 1) := by decide +kernel
theorem dX9_count_2 : decode cX9_count 2 = .ok (.iconst 0, 1) := by decide +kernel
theorem dX9_count_3 : decode cX9_count 3 = .ok (.istore_n 3, 1) := by decide +kernel
theorem dX9_count_4 : decode cX9_count 4 = .ok (.iload_n 3, 1) := by decide +kernel
theorem dX9_count_5 : decode cX9_count 5 = .ok (.iconst 3, 1) := by decide +kernel
theorem dX9_count_6 : decode cX9_count 6 = .ok (.if_icmp .ge 27, 3) := by decide +kernel
theorem dX9_count_9 : decode cX9_count 9 = .ok (.iload_n 2, 1) := by decide +kernel
theorem dX9_count_10 : decode cX9_count 10 = .ok (.aload_n 0, 1) := by decide +kernel
theorem dX9_count_11 : decode cX9_count 11 = .ok (.iload_n 3, 1) := by decide +kernel
theorem dX9_count_12 : decode cX9_count 12 = .ok (.invokevirtual 75, 3) := by decide +kernel
theorem dX9_count_15 : decode cX9_count 15 = .ok (.ifCond .eq 9, 3) := by decide +kernel
theorem dX9_count_18 : decode cX9_count 18 = .ok (.iconst 1, 1) := by decide +kernel
theorem dX9_count_19 : decode cX9_count 19 = .ok (.iload_n 3, 1) := by decide +kernel
theorem dX9_count_20 : decode cX9_count 20 = .ok (.ishl, 1) := by decide +kernel
theorem dX9_count_21 : decode cX9_count 21 = .ok (.goto 4, 3) := by decide +kernel
theorem dX9_count_24 : decode cX9_count 24 = .ok (.iconst 0, 1) := by decide +kernel
theorem dX9_count_25 : decode cX9_count 25 = .ok (.ior, 1) := by decide +kernel
theorem dX9_count_26 : decode cX9_count 26 = .ok (.istore_n 2, 1) := by decide +kernel
theorem dX9_count_27 : decode cX9_count 27 = .ok (.iinc 3 1, 3) := by decide +kernel
theorem dX9_count_30 : decode cX9_count 30 = .ok (.goto (-26), 3) := by decide +kernel
theorem dX9_count_33 : decode cX9_count 33 = .ok (.iload_n 1, 1) := by decide +kernel
theorem dX9_count_34 : decode cX9_count 34 = .ok (.tableswitch 47 0 3 #[30, 32, 37, 42], 30) := by decide +kernel
theorem dX9_count_64 : decode cX9_count 64 = .ok (.iload_n 2, 1) := by decide +kernel
theorem dX9_count_65 : decode cX9_count 65 = .ok (.ireturn, 1) := by decide +kernel
theorem dX9_count_66 : decode cX9_count 66 = .ok (.aload_n 0, 1) := by decide +kernel
theorem dX9_count_67 : decode cX9_count 67 = .ok (.getfield 85, 3) := by decide +kernel
theorem dX9_count_70 : decode cX9_count 70 = .ok (.ireturn, 1) := by decide +kernel
theorem dX9_count_71 : decode cX9_count 71 = .ok (.aload_n 0, 1) := by decide +kernel
theorem dX9_count_72 : decode cX9_count 72 = .ok (.getfield 100, 3) := by decide +kernel
theorem dX9_count_75 : decode cX9_count 75 = .ok (.ireturn, 1) := by decide +kernel
theorem dX9_count_76 : decode cX9_count 76 = .ok (.aload_n 0, 1) := by decide +kernel
theorem dX9_count_77 : decode cX9_count 77 = .ok (.getfield 191, 3) := by decide +kernel
theorem dX9_count_80 : decode cX9_count 80 = .ok (.ireturn, 1) := by decide +kernel
theorem dX9_count_81 : decode cX9_count 81 = .ok (.iconst (-1), 1) := by decide +kernel
theorem dX9_count_82 : decode cX9_count 82 = .ok (.ireturn, 1) := by decide +kernel
theorem dX9_isBut_0 : decode cX9_isBut 0 = .ok (.iload_n 2, 1) := by decide +kernel
theorem dX9_isBut_1 : decode cX9_isBut 1 = .ok (.iload_n 3, 1) := by decide +kernel
theorem dX9_isBut_2 : decode cX9_isBut 2 = .ok (.if_icmp .eq 16, 3) := by decide +kernel
theorem dX9_isBut_5 : decode cX9_isBut 5 = .ok (.aload_n 0, 1) := by decide +kernel
theorem dX9_isBut_6 : decode cX9_isBut 6 = .ok (.iload_n 1, 1) := by decide +kernel
theorem dX9_isBut_7 : decode cX9_isBut 7 = .ok (.iload_n 2, 1) := by decide +kernel
theorem dX9_isBut_8 : decode cX9_isBut 8 = .ok (.invokevirtual 81, 3) := by decide +kernel
theorem dX9_isBut_11 : decode cX9_isBut 11 = .ok (.ifCond .eq 7, 3) := by decide +kernel
theorem dX9_isBut_14 : decode cX9_isBut 14 = .ok (.iconst 1, 1) := by decide +kernel
theorem dX9_isBut_15 : decode cX9_isBut 15 = .ok (.goto 4, 3) := by decide +kernel
theorem dX9_isBut_18 : decode cX9_isBut 18 = .ok (.iconst 0, 1) := by decide +kernel
theorem dX9_isBut_19 : decode cX9_isBut 19 = .ok (.ireturn, 1) := by decide +kernel
theorem dX9_looked_0 : decode cX9_looked 0 = .ok (.iconst 0, 1) := by decide +kernel
theorem dX9_looked_1 : decode cX9_looked 1 = .ok (.istore 4, 2) := by decide +kernel
theorem dX9_looked_3 : decode cX9_looked 3 = .ok (.iconst (-1), 1) := by decide +kernel
theorem dX9_looked_4 : decode cX9_looked 4 = .ok (.istore 5, 2) := by decide +kernel
theorem dX9_looked_6 : decode cX9_looked 6 = .ok (.iconst (-1), 1) := by decide +kernel
theorem dX9_looked_7 : decode cX9_looked 7 = .ok (.istore 6, 2) := by decide +kernel
theorem dX9_looked_9 : decode cX9_looked 9 = .ok (.iconst 0, 1) := by decide +kernel
theorem dX9_looked_10 : decode cX9_looked 10 = .ok (.istore 7, 2) := by decide +kernel
theorem dX9_looked_12 : decode cX9_looked 12 = .ok (.iconst 1, 1) := by decide +kernel
theorem dX9_looked_13 : decode cX9_looked 13 = .ok (.aload_n 0, 1) := by decide +kernel
theorem dX9_looked_14 : decode cX9_looked 14 = .ok (.iload_n 1, 1) := by decide +kernel
theorem dX9_looked_15 : decode cX9_looked 15 = .ok (.invokevirtual 78, 3) := by decide +kernel
theorem dX9_looked_18 : decode cX9_looked 18 = .ok (.ishl, 1) := by decide +kernel
theorem dX9_looked_19 : decode cX9_looked 19 = .ok (.iconst 1, 1) := by decide +kernel
theorem dX9_looked_20 : decode cX9_looked 20 = .ok (.isub, 1) := by decide +kernel
theorem dX9_looked_21 : decode cX9_looked 21 = .ok (.istore 8, 2) := by decide +kernel
theorem dX9_looked_23 : decode cX9_looked 23 = .ok (.iconst 0, 1) := by decide +kernel
theorem dX9_looked_24 : decode cX9_looked 24 = .ok (.istore 9, 2) := by decide +kernel
theorem dX9_looked_26 : decode cX9_looked 26 = .ok (.iconst 0, 1) := by decide +kernel
theorem dX9_looked_27 : decode cX9_looked 27 = .ok (.istore 10, 2) := by decide +kernel
theorem dX9_looked_29 : decode cX9_looked 29 = .ok (.iload 10, 2) := by decide +kernel
theorem dX9_looked_31 : decode cX9_looked 31 = .ok (.sipush 128, 3) := by decide +kernel
theorem dX9_looked_34 : decode cX9_looked 34 = .ok (.if_icmp .ge 123, 3) := by decide +kernel
theorem dX9_looked_37 : decode cX9_looked 37 = .ok (.aload_n 0, 1) := by decide +kernel
theorem dX9_looked_38 : decode cX9_looked 38 = .ok (.iload_n 1, 1) := by decide +kernel
theorem dX9_looked_39 : decode cX9_looked 39 = .ok (.iload 10, 2) := by decide +kernel
theorem dX9_looked_41 : decode cX9_looked 41 = .ok (.iload_n 3, 1) := by decide +kernel
theorem dX9_looked_42 : decode cX9_looked 42 = .ok (.invokevirtual 194, 3) := by decide +kernel
theorem dX9_looked_45 : decode cX9_looked 45 = .ok (.ifCond .ne 6, 3) := by decide +kernel
theorem dX9_looked_48 : decode cX9_looked 48 = .ok (.goto 103, 3) := by decide +kernel
theorem dX9_looked_51 : decode cX9_looked 51 = .ok (.iinc 4 1, 3) := by decide +kernel
theorem dX9_looked_54 : decode cX9_looked 54 = .ok (.iload 5, 2) := by decide +kernel
theorem dX9_looked_56 : decode cX9_looked 56 = .ok (.iconst (-1), 1) := by decide +kernel
theorem dX9_looked_57 : decode cX9_looked 57 = .ok (.if_icmp .ne 11, 3) := by decide +kernel
theorem dX9_looked_60 : decode cX9_looked 60 = .ok (.iload 10, 2) := by decide +kernel
theorem dX9_looked_62 : decode cX9_looked 62 = .ok (.invokestatic 198, 3) := by decide +kernel
theorem dX9_looked_65 : decode cX9_looked 65 = .ok (.goto 13, 3) := by decide +kernel
theorem dX9_looked_68 : decode cX9_looked 68 = .ok (.iload 5, 2) := by decide +kernel
theorem dX9_looked_70 : decode cX9_looked 70 = .ok (.iload 10, 2) := by decide +kernel
theorem dX9_looked_72 : decode cX9_looked 72 = .ok (.invokestatic 198, 3) := by decide +kernel
theorem dX9_looked_75 : decode cX9_looked 75 = .ok (.invokestatic 140, 3) := by decide +kernel
theorem dX9_looked_78 : decode cX9_looked 78 = .ok (.istore 5, 2) := by decide +kernel
theorem dX9_looked_80 : decode cX9_looked 80 = .ok (.iload 6, 2) := by decide +kernel
theorem dX9_looked_82 : decode cX9_looked 82 = .ok (.iload 10, 2) := by decide +kernel
theorem dX9_looked_84 : decode cX9_looked 84 = .ok (.invokestatic 198, 3) := by decide +kernel
theorem dX9_looked_87 : decode cX9_looked 87 = .ok (.invokestatic 201, 3) := by decide +kernel
theorem dX9_looked_90 : decode cX9_looked 90 = .ok (.istore 6, 2) := by decide +kernel
theorem dX9_looked_92 : decode cX9_looked 92 = .ok (.iload 7, 2) := by decide +kernel
theorem dX9_looked_94 : decode cX9_looked 94 = .ok (.iload 10, 2) := by decide +kernel
theorem dX9_looked_96 : decode cX9_looked 96 = .ok (.ior, 1) := by decide +kernel
theorem dX9_looked_97 : decode cX9_looked 97 = .ok (.istore 7, 2) := by decide +kernel
theorem dX9_looked_99 : decode cX9_looked 99 = .ok (.iload 8, 2) := by decide +kernel
theorem dX9_looked_101 : decode cX9_looked 101 = .ok (.iload 10, 2) := by decide +kernel
theorem dX9_looked_103 : decode cX9_looked 103 = .ok (.iand, 1) := by decide +kernel
theorem dX9_looked_104 : decode cX9_looked 104 = .ok (.istore 8, 2) := by decide +kernel
theorem dX9_looked_106 : decode cX9_looked 106 = .ok (.iconst 0, 1) := by decide +kernel
theorem dX9_looked_107 : decode cX9_looked 107 = .ok (.istore 11, 2) := by decide +kernel
theorem dX9_looked_109 : decode cX9_looked 109 = .ok (.iload 11, 2) := by decide +kernel
theorem dX9_looked_111 : decode cX9_looked 111 = .ok (.iload 10, 2) := by decide +kernel
theorem dX9_looked_113 : decode cX9_looked 113 = .ok (.if_icmp .ge 38, 3) := by decide +kernel
theorem dX9_looked_116 : decode cX9_looked 116 = .ok (.iload 9, 2) := by decide +kernel
theorem dX9_looked_118 : decode cX9_looked 118 = .ok (.aload_n 0, 1) := by decide +kernel
theorem dX9_looked_119 : decode cX9_looked 119 = .ok (.iload_n 1, 1) := by decide +kernel
theorem dX9_looked_120 : decode cX9_looked 120 = .ok (.iload 11, 2) := by decide +kernel
theorem dX9_looked_122 : decode cX9_looked 122 = .ok (.iload_n 3, 1) := by decide +kernel
theorem dX9_looked_123 : decode cX9_looked 123 = .ok (.invokevirtual 194, 3) := by decide +kernel
theorem dX9_looked_126 : decode cX9_looked 126 = .ok (.ifCond .eq 15, 3) := by decide +kernel
theorem dX9_looked_129 : decode cX9_looked 129 = .ok (.iload 10, 2) := by decide +kernel
theorem dX9_looked_131 : decode cX9_looked 131 = .ok (.iload 11, 2) := by decide +kernel
theorem dX9_looked_133 : decode cX9_looked 133 = .ok (.iand, 1) := by decide +kernel
theorem dX9_looked_134 : decode cX9_looked 134 = .ok (.ifCond .ne 7, 3) := by decide +kernel
theorem dX9_looked_137 : decode cX9_looked 137 = .ok (.iconst 1, 1) := by decide +kernel
theorem dX9_looked_138 : decode cX9_looked 138 = .ok (.goto 4, 3) := by decide +kernel
theorem dX9_looked_141 : decode cX9_looked 141 = .ok (.iconst 0, 1) := by decide +kernel
theorem dX9_looked_142 : decode cX9_looked 142 = .ok (.iadd, 1) := by decide +kernel
theorem dX9_looked_143 : decode cX9_looked 143 = .ok (.istore 9, 2) := by decide +kernel
theorem dX9_looked_145 : decode cX9_looked 145 = .ok (.iinc 11 1, 3) := by decide +kernel
theorem dX9_looked_148 : decode cX9_looked 148 = .ok (.goto (-39), 3) := by decide +kernel
theorem dX9_looked_151 : decode cX9_looked 151 = .ok (.iinc 10 1, 3) := by decide +kernel
theorem dX9_looked_154 : decode cX9_looked 154 = .ok (.goto (-125), 3) := by decide +kernel
theorem dX9_looked_157 : decode cX9_looked 157 = .ok (.iload_n 2, 1) := by decide +kernel
theorem dX9_looked_158 : decode cX9_looked 158 = .ok (.tableswitch 59 0 5 #[38, 44, 47, 50, 53, 56], 38) := by decide +kernel
theorem dX9_looked_196 : decode cX9_looked 196 = .ok (.aload_n 0, 1) := by decide +kernel
theorem dX9_looked_197 : decode cX9_looked 197 = .ok (.iload_n 1, 1) := by decide +kernel
theorem dX9_looked_198 : decode cX9_looked 198 = .ok (.invokevirtual 78, 3) := by decide +kernel
theorem dX9_looked_201 : decode cX9_looked 201 = .ok (.ireturn, 1) := by decide +kernel
theorem dX9_looked_202 : decode cX9_looked 202 = .ok (.iload 4, 2) := by decide +kernel
theorem dX9_looked_204 : decode cX9_looked 204 = .ok (.ireturn, 1) := by decide +kernel
theorem dX9_looked_205 : decode cX9_looked 205 = .ok (.iload 5, 2) := by decide +kernel
theorem dX9_looked_207 : decode cX9_looked 207 = .ok (.ireturn, 1) := by decide +kernel
theorem dX9_looked_208 : decode cX9_looked 208 = .ok (.iload 6, 2) := by decide +kernel
theorem dX9_looked_210 : decode cX9_looked 210 = .ok (.ireturn, 1) := by decide +kernel
theorem dX9_looked_211 : decode cX9_looked 211 = .ok (.iload 7, 2) := by decide +kernel
theorem dX9_looked_213 : decode cX9_looked 213 = .ok (.ireturn, 1) := by decide +kernel
theorem dX9_looked_214 : decode cX9_looked 214 = .ok (.iload 8, 2) := by decide +kernel
theorem dX9_looked_216 : decode cX9_looked 216 = .ok (.ireturn, 1) := by decide +kernel
theorem dX9_looked_217 : decode cX9_looked 217 = .ok (.iload 9, 2) := by decide +kernel
theorem dX9_looked_219 : decode cX9_looked 219 = .ok (.ireturn, 1) := by decide +kernel
theorem dX9_look_0 : decode cX9_look 0 = .ok (.aload_n 0, 1) := by decide +kernel
theorem dX9_look_1 : decode cX9_look 1 = .ok (.iload_n 1, 1) := by decide +kernel
theorem dX9_look_2 : decode cX9_look 2 = .ok (.invokevirtual 75, 3) := by decide +kernel
theorem dX9_look_5 : decode cX9_look 5 = .ok (.ifCond .eq 25, 3) := by decide +kernel
theorem dX9_look_8 : decode cX9_look 8 = .ok (.iload_n 2, 1) := by decide +kernel
theorem dX9_look_9 : decode cX9_look 9 = .ok (.i2l, 1) := by decide +kernel
theorem dX9_look_10 : decode cX9_look 10 = .ok (.lconst 0, 1) := by decide +kernel
theorem dX9_look_11 : decode cX9_look 11 = .ok (.ldc2_w 204, 3) := by decide +kernel
theorem dX9_look_14 : decode cX9_look 14 = .ok (.invokestatic 63, 3) := by decide +kernel
theorem dX9_look_17 : decode cX9_look 17 = .ok (.ifCond .eq 13, 3) := by decide +kernel
theorem dX9_look_20 : decode cX9_look 20 = .ok (.aload_n 0, 1) := by decide +kernel
theorem dX9_look_21 : decode cX9_look 21 = .ok (.iload_n 1, 1) := by decide +kernel
theorem dX9_look_22 : decode cX9_look 22 = .ok (.iload_n 2, 1) := by decide +kernel
theorem dX9_look_23 : decode cX9_look 23 = .ok (.iconst (-1), 1) := by decide +kernel
theorem dX9_look_24 : decode cX9_look 24 = .ok (.invokevirtual 206, 3) := by decide +kernel
theorem dX9_look_27 : decode cX9_look 27 = .ok (.goto 5, 3) := by decide +kernel
theorem dX9_look_30 : decode cX9_look 30 = .ok (.bipush (-2), 2) := by decide +kernel
theorem dX9_look_32 : decode cX9_look 32 = .ok (.ireturn, 1) := by decide +kernel
theorem dX9_without_0 : decode cX9_without 0 = .ok (.aload_n 0, 1) := by decide +kernel
theorem dX9_without_1 : decode cX9_without 1 = .ok (.iload_n 1, 1) := by decide +kernel
theorem dX9_without_2 : decode cX9_without 2 = .ok (.iload_n 2, 1) := by decide +kernel
theorem dX9_without_3 : decode cX9_without 3 = .ok (.invokevirtual 210, 3) := by decide +kernel
theorem dX9_without_6 : decode cX9_without 6 = .ok (.ifCond .eq 15, 3) := by decide +kernel
theorem dX9_without_9 : decode cX9_without 9 = .ok (.iload_n 3, 1) := by decide +kernel
theorem dX9_without_10 : decode cX9_without 10 = .ok (.i2l, 1) := by decide +kernel
theorem dX9_without_11 : decode cX9_without 11 = .ok (.lconst 0, 1) := by decide +kernel
theorem dX9_without_12 : decode cX9_without 12 = .ok (.ldc2_w 204, 3) := by decide +kernel
theorem dX9_without_15 : decode cX9_without 15 = .ok (.invokestatic 63, 3) := by decide +kernel
theorem dX9_without_18 : decode cX9_without 18 = .ok (.ifCond .ne 6, 3) := by decide +kernel
theorem dX9_without_21 : decode cX9_without 21 = .ok (.bipush (-2), 2) := by decide +kernel
theorem dX9_without_23 : decode cX9_without 23 = .ok (.ireturn, 1) := by decide +kernel
theorem dX9_without_24 : decode cX9_without 24 = .ok (.aload_n 0, 1) := by decide +kernel
theorem dX9_without_25 : decode cX9_without 25 = .ok (.iload_n 1, 1) := by decide +kernel
theorem dX9_without_26 : decode cX9_without 26 = .ok (.iload_n 2, 1) := by decide +kernel
theorem dX9_without_27 : decode cX9_without 27 = .ok (.invokevirtual 81, 3) := by decide +kernel
theorem dX9_without_30 : decode cX9_without 30 = .ok (.ifCond .eq 13, 3) := by decide +kernel
theorem dX9_without_33 : decode cX9_without 33 = .ok (.aload_n 0, 1) := by decide +kernel
theorem dX9_without_34 : decode cX9_without 34 = .ok (.iload_n 1, 1) := by decide +kernel
theorem dX9_without_35 : decode cX9_without 35 = .ok (.iload_n 3, 1) := by decide +kernel
theorem dX9_without_36 : decode cX9_without 36 = .ok (.iload_n 2, 1) := by decide +kernel
theorem dX9_without_37 : decode cX9_without 37 = .ok (.invokevirtual 206, 3) := by decide +kernel
theorem dX9_without_40 : decode cX9_without 40 = .ok (.goto 5, 3) := by decide +kernel
theorem dX9_without_43 : decode cX9_without 43 = .ok (.bipush (-6), 2) := by decide +kernel
theorem dX9_without_45 : decode cX9_without 45 = .ok (.ireturn, 1) := by decide +kernel
theorem dX9_set_0 : decode cX9_set 0 = .ok (.aload_n 0, 1) := by decide +kernel
theorem dX9_set_1 : decode cX9_set 1 = .ok (.iload_n 1, 1) := by decide +kernel
theorem dX9_set_2 : decode cX9_set 2 = .ok (.invokevirtual 75, 3) := by decide +kernel
theorem dX9_set_5 : decode cX9_set 5 = .ok (.ifCond .eq 7, 3) := by decide +kernel
theorem dX9_set_8 : decode cX9_set 8 = .ok (.iload_n 2, 1) := by decide +kernel
theorem dX9_set_9 : decode cX9_set 9 = .ok (.ifCond .ge 8, 3) := by decide +kernel
theorem dX9_set_12 : decode cX9_set 12 = .ok (.bipush (-2), 2) := by decide +kernel
theorem dX9_set_14 : decode cX9_set 14 = .ok (.goto 9, 3) := by decide +kernel
theorem dX9_set_17 : decode cX9_set 17 = .ok (.aload_n 0, 1) := by decide +kernel
theorem dX9_set_18 : decode cX9_set 18 = .ok (.iload_n 1, 1) := by decide +kernel
theorem dX9_set_19 : decode cX9_set 19 = .ok (.iload_n 2, 1) := by decide +kernel
theorem dX9_set_20 : decode cX9_set 20 = .ok (.invokevirtual 213, 3) := by decide +kernel
theorem dX9_set_23 : decode cX9_set 23 = .ok (.ireturn, 1) := by decide +kernel
theorem dX9_has_0 : decode cX9_has 0 = .ok (.aload_n 0, 1) := by decide +kernel
theorem dX9_has_1 : decode cX9_has 1 = .ok (.iload_n 1, 1) := by decide +kernel
theorem dX9_has_2 : decode cX9_has 2 = .ok (.iload_n 2, 1) := by decide +kernel
theorem dX9_has_3 : decode cX9_has 3 = .ok (.invokevirtual 210, 3) := by decide +kernel
theorem dX9_has_6 : decode cX9_has 6 = .ok (.ifCond .eq 19, 3) := by decide +kernel
theorem dX9_has_9 : decode cX9_has 9 = .ok (.aload_n 0, 1) := by decide +kernel
theorem dX9_has_10 : decode cX9_has 10 = .ok (.getfield 9, 3) := by decide +kernel
theorem dX9_has_13 : decode cX9_has 13 = .ok (.iload_n 1, 1) := by decide +kernel
theorem dX9_has_14 : decode cX9_has 14 = .ok (.invokestatic 71, 3) := by decide +kernel
theorem dX9_has_17 : decode cX9_has 17 = .ok (.iconst 1, 1) := by decide +kernel
theorem dX9_has_18 : decode cX9_has 18 = .ok (.iadd, 1) := by decide +kernel
theorem dX9_has_19 : decode cX9_has 19 = .ok (.iload_n 2, 1) := by decide +kernel
theorem dX9_has_20 : decode cX9_has 20 = .ok (.iadd, 1) := by decide +kernel
theorem dX9_has_21 : decode cX9_has 21 = .ok (.iaload, 1) := by decide +kernel
theorem dX9_has_22 : decode cX9_has 22 = .ok (.goto 5, 3) := by decide +kernel
theorem dX9_has_25 : decode cX9_has 25 = .ok (.bipush (-2), 2) := by decide +kernel
theorem dX9_has_27 : decode cX9_has 27 = .ok (.ireturn, 1) := by decide +kernel
theorem dX9_goTogether_0 : decode cX9_goTogether 0 = .ok (.iload_n 3, 1) := by decide +kernel
theorem dX9_goTogether_1 : decode cX9_goTogether 1 = .ok (.tableswitch 84 0 4 #[35, 47, 84, 84, 64], 35) := by decide +kernel
theorem dX9_goTogether_36 : decode cX9_goTogether 36 = .ok (.iload_n 1, 1) := by decide +kernel
theorem dX9_goTogether_37 : decode cX9_goTogether 37 = .ok (.iload_n 2, 1) := by decide +kernel
theorem dX9_goTogether_38 : decode cX9_goTogether 38 = .ok (.iand, 1) := by decide +kernel
theorem dX9_goTogether_39 : decode cX9_goTogether 39 = .ok (.ifCond .eq 7, 3) := by decide +kernel
theorem dX9_goTogether_42 : decode cX9_goTogether 42 = .ok (.iconst 1, 1) := by decide +kernel
theorem dX9_goTogether_43 : decode cX9_goTogether 43 = .ok (.goto 4, 3) := by decide +kernel
theorem dX9_goTogether_46 : decode cX9_goTogether 46 = .ok (.iconst 0, 1) := by decide +kernel
theorem dX9_goTogether_47 : decode cX9_goTogether 47 = .ok (.ireturn, 1) := by decide +kernel
theorem dX9_goTogether_48 : decode cX9_goTogether 48 = .ok (.iload_n 1, 1) := by decide +kernel
theorem dX9_goTogether_49 : decode cX9_goTogether 49 = .ok (.invokestatic 198, 3) := by decide +kernel
theorem dX9_goTogether_52 : decode cX9_goTogether 52 = .ok (.iload_n 2, 1) := by decide +kernel
theorem dX9_goTogether_53 : decode cX9_goTogether 53 = .ok (.invokestatic 198, 3) := by decide +kernel
theorem dX9_goTogether_56 : decode cX9_goTogether 56 = .ok (.if_icmp .ne 7, 3) := by decide +kernel
theorem dX9_goTogether_59 : decode cX9_goTogether 59 = .ok (.iconst 1, 1) := by decide +kernel
theorem dX9_goTogether_60 : decode cX9_goTogether 60 = .ok (.goto 4, 3) := by decide +kernel
theorem dX9_goTogether_63 : decode cX9_goTogether 63 = .ok (.iconst 0, 1) := by decide +kernel
theorem dX9_goTogether_64 : decode cX9_goTogether 64 = .ok (.ireturn, 1) := by decide +kernel
theorem dX9_goTogether_65 : decode cX9_goTogether 65 = .ok (.iload_n 1, 1) := by decide +kernel
theorem dX9_goTogether_66 : decode cX9_goTogether 66 = .ok (.iload_n 2, 1) := by decide +kernel
theorem dX9_goTogether_67 : decode cX9_goTogether 67 = .ok (.iand, 1) := by decide +kernel
theorem dX9_goTogether_68 : decode cX9_goTogether 68 = .ok (.iload_n 1, 1) := by decide +kernel
theorem dX9_goTogether_69 : decode cX9_goTogether 69 = .ok (.if_icmp .eq 10, 3) := by decide +kernel
theorem dX9_goTogether_72 : decode cX9_goTogether 72 = .ok (.iload_n 1, 1) := by decide +kernel
theorem dX9_goTogether_73 : decode cX9_goTogether 73 = .ok (.iload_n 2, 1) := by decide +kernel
theorem dX9_goTogether_74 : decode cX9_goTogether 74 = .ok (.iand, 1) := by decide +kernel
theorem dX9_goTogether_75 : decode cX9_goTogether 75 = .ok (.iload_n 2, 1) := by decide +kernel
theorem dX9_goTogether_76 : decode cX9_goTogether 76 = .ok (.if_icmp .ne 7, 3) := by decide +kernel
theorem dX9_goTogether_79 : decode cX9_goTogether 79 = .ok (.iconst 1, 1) := by decide +kernel
theorem dX9_goTogether_80 : decode cX9_goTogether 80 = .ok (.goto 4, 3) := by decide +kernel
theorem dX9_goTogether_83 : decode cX9_goTogether 83 = .ok (.iconst 0, 1) := by decide +kernel
theorem dX9_goTogether_84 : decode cX9_goTogether 84 = .ok (.ireturn, 1) := by decide +kernel
theorem dX9_goTogether_85 : decode cX9_goTogether 85 = .ok (.iload_n 1, 1) := by decide +kernel
theorem dX9_goTogether_86 : decode cX9_goTogether 86 = .ok (.iload_n 2, 1) := by decide +kernel
theorem dX9_goTogether_87 : decode cX9_goTogether 87 = .ok (.if_icmp .eq 17, 3) := by decide +kernel
theorem dX9_goTogether_90 : decode cX9_goTogether 90 = .ok (.iload_n 1, 1) := by decide +kernel
theorem dX9_goTogether_91 : decode cX9_goTogether 91 = .ok (.iload_n 2, 1) := by decide +kernel
theorem dX9_goTogether_92 : decode cX9_goTogether 92 = .ok (.iand, 1) := by decide +kernel
theorem dX9_goTogether_93 : decode cX9_goTogether 93 = .ok (.iload_n 1, 1) := by decide +kernel
theorem dX9_goTogether_94 : decode cX9_goTogether 94 = .ok (.if_icmp .eq 14, 3) := by decide +kernel
theorem dX9_goTogether_97 : decode cX9_goTogether 97 = .ok (.iload_n 1, 1) := by decide +kernel
theorem dX9_goTogether_98 : decode cX9_goTogether 98 = .ok (.iload_n 2, 1) := by decide +kernel
theorem dX9_goTogether_99 : decode cX9_goTogether 99 = .ok (.iand, 1) := by decide +kernel
theorem dX9_goTogether_100 : decode cX9_goTogether 100 = .ok (.iload_n 2, 1) := by decide +kernel
theorem dX9_goTogether_101 : decode cX9_goTogether 101 = .ok (.if_icmp .eq 7, 3) := by decide +kernel
theorem dX9_goTogether_104 : decode cX9_goTogether 104 = .ok (.iconst 1, 1) := by decide +kernel
theorem dX9_goTogether_105 : decode cX9_goTogether 105 = .ok (.goto 4, 3) := by decide +kernel
theorem dX9_goTogether_108 : decode cX9_goTogether 108 = .ok (.iconst 0, 1) := by decide +kernel
theorem dX9_goTogether_109 : decode cX9_goTogether 109 = .ok (.ireturn, 1) := by decide +kernel
theorem dX9_areAll_0 : decode cX9_areAll 0 = .ok (.iconst 0, 1) := by decide +kernel
theorem dX9_areAll_1 : decode cX9_areAll 1 = .ok (.istore_n 3, 1) := by decide +kernel
theorem dX9_areAll_2 : decode cX9_areAll 2 = .ok (.iload_n 3, 1) := by decide +kernel
theorem dX9_areAll_3 : decode cX9_areAll 3 = .ok (.sipush 128, 3) := by decide +kernel
theorem dX9_areAll_6 : decode cX9_areAll 6 = .ok (.if_icmp .ge 56, 3) := by decide +kernel
theorem dX9_areAll_9 : decode cX9_areAll 9 = .ok (.iconst 0, 1) := by decide +kernel
theorem dX9_areAll_10 : decode cX9_areAll 10 = .ok (.istore 4, 2) := by decide +kernel
theorem dX9_areAll_12 : decode cX9_areAll 12 = .ok (.iload 4, 2) := by decide +kernel
theorem dX9_areAll_14 : decode cX9_areAll 14 = .ok (.iload_n 3, 1) := by decide +kernel
theorem dX9_areAll_15 : decode cX9_areAll 15 = .ok (.if_icmp .gt 41, 3) := by decide +kernel
theorem dX9_areAll_18 : decode cX9_areAll 18 = .ok (.aload_n 0, 1) := by decide +kernel
theorem dX9_areAll_19 : decode cX9_areAll 19 = .ok (.iload_n 1, 1) := by decide +kernel
theorem dX9_areAll_20 : decode cX9_areAll 20 = .ok (.iload_n 3, 1) := by decide +kernel
theorem dX9_areAll_21 : decode cX9_areAll 21 = .ok (.invokevirtual 81, 3) := by decide +kernel
theorem dX9_areAll_24 : decode cX9_areAll 24 = .ok (.ifCond .eq 26, 3) := by decide +kernel
theorem dX9_areAll_27 : decode cX9_areAll 27 = .ok (.aload_n 0, 1) := by decide +kernel
theorem dX9_areAll_28 : decode cX9_areAll 28 = .ok (.iload_n 1, 1) := by decide +kernel
theorem dX9_areAll_29 : decode cX9_areAll 29 = .ok (.iload 4, 2) := by decide +kernel
theorem dX9_areAll_31 : decode cX9_areAll 31 = .ok (.invokevirtual 81, 3) := by decide +kernel
theorem dX9_areAll_34 : decode cX9_areAll 34 = .ok (.ifCond .eq 16, 3) := by decide +kernel
theorem dX9_areAll_37 : decode cX9_areAll 37 = .ok (.aload_n 0, 1) := by decide +kernel
theorem dX9_areAll_38 : decode cX9_areAll 38 = .ok (.iload_n 3, 1) := by decide +kernel
theorem dX9_areAll_39 : decode cX9_areAll 39 = .ok (.iload 4, 2) := by decide +kernel
theorem dX9_areAll_41 : decode cX9_areAll 41 = .ok (.iload_n 2, 1) := by decide +kernel
theorem dX9_areAll_42 : decode cX9_areAll 42 = .ok (.invokevirtual 216, 3) := by decide +kernel
theorem dX9_areAll_45 : decode cX9_areAll 45 = .ok (.ifCond .ne 5, 3) := by decide +kernel
theorem dX9_areAll_48 : decode cX9_areAll 48 = .ok (.iconst 0, 1) := by decide +kernel
theorem dX9_areAll_49 : decode cX9_areAll 49 = .ok (.ireturn, 1) := by decide +kernel
theorem dX9_areAll_50 : decode cX9_areAll 50 = .ok (.iinc 4 1, 3) := by decide +kernel
theorem dX9_areAll_53 : decode cX9_areAll 53 = .ok (.goto (-41), 3) := by decide +kernel
theorem dX9_areAll_56 : decode cX9_areAll 56 = .ok (.iinc 3 1, 3) := by decide +kernel
theorem dX9_areAll_59 : decode cX9_areAll 59 = .ok (.goto (-57), 3) := by decide +kernel
theorem dX9_areAll_62 : decode cX9_areAll 62 = .ok (.iconst 1, 1) := by decide +kernel
theorem dX9_areAll_63 : decode cX9_areAll 63 = .ok (.ireturn, 1) := by decide +kernel
theorem dX9_isShut_0 : decode cX9_isShut 0 = .ok (.iconst 0, 1) := by decide +kernel
theorem dX9_isShut_1 : decode cX9_isShut 1 = .ok (.istore_n 3, 1) := by decide +kernel
theorem dX9_isShut_2 : decode cX9_isShut 2 = .ok (.iload_n 3, 1) := by decide +kernel
theorem dX9_isShut_3 : decode cX9_isShut 3 = .ok (.iconst 1, 1) := by decide +kernel
theorem dX9_isShut_4 : decode cX9_isShut 4 = .ok (.aload_n 0, 1) := by decide +kernel
theorem dX9_isShut_5 : decode cX9_isShut 5 = .ok (.iload_n 1, 1) := by decide +kernel
theorem dX9_isShut_6 : decode cX9_isShut 6 = .ok (.invokevirtual 78, 3) := by decide +kernel
theorem dX9_isShut_9 : decode cX9_isShut 9 = .ok (.ishl, 1) := by decide +kernel
theorem dX9_isShut_10 : decode cX9_isShut 10 = .ok (.if_icmp .ge 63, 3) := by decide +kernel
theorem dX9_isShut_13 : decode cX9_isShut 13 = .ok (.iconst 0, 1) := by decide +kernel
theorem dX9_isShut_14 : decode cX9_isShut 14 = .ok (.istore 4, 2) := by decide +kernel
theorem dX9_isShut_16 : decode cX9_isShut 16 = .ok (.iload 4, 2) := by decide +kernel
theorem dX9_isShut_18 : decode cX9_isShut 18 = .ok (.aload_n 0, 1) := by decide +kernel
theorem dX9_isShut_19 : decode cX9_isShut 19 = .ok (.iload_n 1, 1) := by decide +kernel
theorem dX9_isShut_20 : decode cX9_isShut 20 = .ok (.invokevirtual 78, 3) := by decide +kernel
theorem dX9_isShut_23 : decode cX9_isShut 23 = .ok (.if_icmp .ge 44, 3) := by decide +kernel
theorem dX9_isShut_26 : decode cX9_isShut 26 = .ok (.aload_n 0, 1) := by decide +kernel
theorem dX9_isShut_27 : decode cX9_isShut 27 = .ok (.iload_n 1, 1) := by decide +kernel
theorem dX9_isShut_28 : decode cX9_isShut 28 = .ok (.iload_n 3, 1) := by decide +kernel
theorem dX9_isShut_29 : decode cX9_isShut 29 = .ok (.invokevirtual 81, 3) := by decide +kernel
theorem dX9_isShut_32 : decode cX9_isShut 32 = .ok (.ifCond .eq 29, 3) := by decide +kernel
theorem dX9_isShut_35 : decode cX9_isShut 35 = .ok (.iload_n 3, 1) := by decide +kernel
theorem dX9_isShut_36 : decode cX9_isShut 36 = .ok (.iload 4, 2) := by decide +kernel
theorem dX9_isShut_38 : decode cX9_isShut 38 = .ok (.invokestatic 169, 3) := by decide +kernel
theorem dX9_isShut_41 : decode cX9_isShut 41 = .ok (.iload_n 2, 1) := by decide +kernel
theorem dX9_isShut_42 : decode cX9_isShut 42 = .ok (.if_icmp .eq 19, 3) := by decide +kernel
theorem dX9_isShut_45 : decode cX9_isShut 45 = .ok (.aload_n 0, 1) := by decide +kernel
theorem dX9_isShut_46 : decode cX9_isShut 46 = .ok (.iload_n 1, 1) := by decide +kernel
theorem dX9_isShut_47 : decode cX9_isShut 47 = .ok (.iload_n 3, 1) := by decide +kernel
theorem dX9_isShut_48 : decode cX9_isShut 48 = .ok (.iconst 1, 1) := by decide +kernel
theorem dX9_isShut_49 : decode cX9_isShut 49 = .ok (.iload 4, 2) := by decide +kernel
theorem dX9_isShut_51 : decode cX9_isShut 51 = .ok (.ishl, 1) := by decide +kernel
theorem dX9_isShut_52 : decode cX9_isShut 52 = .ok (.ixor, 1) := by decide +kernel
theorem dX9_isShut_53 : decode cX9_isShut 53 = .ok (.invokevirtual 81, 3) := by decide +kernel
theorem dX9_isShut_56 : decode cX9_isShut 56 = .ok (.ifCond .ne 5, 3) := by decide +kernel
theorem dX9_isShut_59 : decode cX9_isShut 59 = .ok (.iconst 0, 1) := by decide +kernel
theorem dX9_isShut_60 : decode cX9_isShut 60 = .ok (.ireturn, 1) := by decide +kernel
theorem dX9_isShut_61 : decode cX9_isShut 61 = .ok (.iinc 4 1, 3) := by decide +kernel
theorem dX9_isShut_64 : decode cX9_isShut 64 = .ok (.goto (-48), 3) := by decide +kernel
theorem dX9_isShut_67 : decode cX9_isShut 67 = .ok (.iinc 3 1, 3) := by decide +kernel
theorem dX9_isShut_70 : decode cX9_isShut 70 = .ok (.goto (-68), 3) := by decide +kernel
theorem dX9_isShut_73 : decode cX9_isShut 73 = .ok (.iconst 1, 1) := by decide +kernel
theorem dX9_isShut_74 : decode cX9_isShut 74 = .ok (.ireturn, 1) := by decide +kernel
theorem dX9_wouldShift_0 : decode cX9_wouldShift 0 = .ok (.iconst 0, 1) := by decide +kernel
theorem dX9_wouldShift_1 : decode cX9_wouldShift 1 = .ok (.istore 4, 2) := by decide +kernel
theorem dX9_wouldShift_3 : decode cX9_wouldShift 3 = .ok (.iconst 0, 1) := by decide +kernel
theorem dX9_wouldShift_4 : decode cX9_wouldShift 4 = .ok (.istore 5, 2) := by decide +kernel
theorem dX9_wouldShift_6 : decode cX9_wouldShift 6 = .ok (.iload 5, 2) := by decide +kernel
theorem dX9_wouldShift_8 : decode cX9_wouldShift 8 = .ok (.sipush 128, 3) := by decide +kernel
theorem dX9_wouldShift_11 : decode cX9_wouldShift 11 = .ok (.if_icmp .ge 65, 3) := by decide +kernel
theorem dX9_wouldShift_14 : decode cX9_wouldShift 14 = .ok (.iload 4, 2) := by decide +kernel
theorem dX9_wouldShift_16 : decode cX9_wouldShift 16 = .ok (.aload_n 0, 1) := by decide +kernel
theorem dX9_wouldShift_17 : decode cX9_wouldShift 17 = .ok (.iload_n 1, 1) := by decide +kernel
theorem dX9_wouldShift_18 : decode cX9_wouldShift 18 = .ok (.iload 5, 2) := by decide +kernel
theorem dX9_wouldShift_20 : decode cX9_wouldShift 20 = .ok (.invokevirtual 81, 3) := by decide +kernel
theorem dX9_wouldShift_23 : decode cX9_wouldShift 23 = .ok (.ifCond .eq 43, 3) := by decide +kernel
theorem dX9_wouldShift_26 : decode cX9_wouldShift 26 = .ok (.iload 5, 2) := by decide +kernel
theorem dX9_wouldShift_28 : decode cX9_wouldShift 28 = .ok (.iload_n 3, 1) := by decide +kernel
theorem dX9_wouldShift_29 : decode cX9_wouldShift 29 = .ok (.invokestatic 169, 3) := by decide +kernel
theorem dX9_wouldShift_32 : decode cX9_wouldShift 32 = .ok (.ifCond .eq 34, 3) := by decide +kernel
theorem dX9_wouldShift_35 : decode cX9_wouldShift 35 = .ok (.iload 5, 2) := by decide +kernel
theorem dX9_wouldShift_37 : decode cX9_wouldShift 37 = .ok (.iload_n 2, 1) := by decide +kernel
theorem dX9_wouldShift_38 : decode cX9_wouldShift 38 = .ok (.invokestatic 169, 3) := by decide +kernel
theorem dX9_wouldShift_41 : decode cX9_wouldShift 41 = .ok (.ifCond .ne 25, 3) := by decide +kernel
theorem dX9_wouldShift_44 : decode cX9_wouldShift 44 = .ok (.aload_n 0, 1) := by decide +kernel
theorem dX9_wouldShift_45 : decode cX9_wouldShift 45 = .ok (.iload_n 1, 1) := by decide +kernel
theorem dX9_wouldShift_46 : decode cX9_wouldShift 46 = .ok (.iload 5, 2) := by decide +kernel
theorem dX9_wouldShift_48 : decode cX9_wouldShift 48 = .ok (.iconst 1, 1) := by decide +kernel
theorem dX9_wouldShift_49 : decode cX9_wouldShift 49 = .ok (.iload_n 3, 1) := by decide +kernel
theorem dX9_wouldShift_50 : decode cX9_wouldShift 50 = .ok (.ishl, 1) := by decide +kernel
theorem dX9_wouldShift_51 : decode cX9_wouldShift 51 = .ok (.ixor, 1) := by decide +kernel
theorem dX9_wouldShift_52 : decode cX9_wouldShift 52 = .ok (.iconst 1, 1) := by decide +kernel
theorem dX9_wouldShift_53 : decode cX9_wouldShift 53 = .ok (.iload_n 2, 1) := by decide +kernel
theorem dX9_wouldShift_54 : decode cX9_wouldShift 54 = .ok (.ishl, 1) := by decide +kernel
theorem dX9_wouldShift_55 : decode cX9_wouldShift 55 = .ok (.ixor, 1) := by decide +kernel
theorem dX9_wouldShift_56 : decode cX9_wouldShift 56 = .ok (.invokevirtual 81, 3) := by decide +kernel
theorem dX9_wouldShift_59 : decode cX9_wouldShift 59 = .ok (.ifCond .ne 7, 3) := by decide +kernel
theorem dX9_wouldShift_62 : decode cX9_wouldShift 62 = .ok (.iconst 1, 1) := by decide +kernel
theorem dX9_wouldShift_63 : decode cX9_wouldShift 63 = .ok (.goto 4, 3) := by decide +kernel
theorem dX9_wouldShift_66 : decode cX9_wouldShift 66 = .ok (.iconst 0, 1) := by decide +kernel
theorem dX9_wouldShift_67 : decode cX9_wouldShift 67 = .ok (.iadd, 1) := by decide +kernel
theorem dX9_wouldShift_68 : decode cX9_wouldShift 68 = .ok (.istore 4, 2) := by decide +kernel
theorem dX9_wouldShift_70 : decode cX9_wouldShift 70 = .ok (.iinc 5 1, 3) := by decide +kernel
theorem dX9_wouldShift_73 : decode cX9_wouldShift 73 = .ok (.goto (-67), 3) := by decide +kernel
theorem dX9_wouldShift_76 : decode cX9_wouldShift 76 = .ok (.iload 4, 2) := by decide +kernel
theorem dX9_wouldShift_78 : decode cX9_wouldShift 78 = .ok (.ireturn, 1) := by decide +kernel
theorem dX9_isShifted_0 : decode cX9_isShifted 0 = .ok (.iconst 0, 1) := by decide +kernel
theorem dX9_isShifted_1 : decode cX9_isShifted 1 = .ok (.istore_n 2, 1) := by decide +kernel
theorem dX9_isShifted_2 : decode cX9_isShifted 2 = .ok (.iload_n 2, 1) := by decide +kernel
theorem dX9_isShifted_3 : decode cX9_isShifted 3 = .ok (.aload_n 0, 1) := by decide +kernel
theorem dX9_isShifted_4 : decode cX9_isShifted 4 = .ok (.iload_n 1, 1) := by decide +kernel
theorem dX9_isShifted_5 : decode cX9_isShifted 5 = .ok (.invokevirtual 78, 3) := by decide +kernel
theorem dX9_isShifted_8 : decode cX9_isShifted 8 = .ok (.if_icmp .ge 40, 3) := by decide +kernel
theorem dX9_isShifted_11 : decode cX9_isShifted 11 = .ok (.iload_n 2, 1) := by decide +kernel
theorem dX9_isShifted_12 : decode cX9_isShifted 12 = .ok (.iconst 1, 1) := by decide +kernel
theorem dX9_isShifted_13 : decode cX9_isShifted 13 = .ok (.iadd, 1) := by decide +kernel
theorem dX9_isShifted_14 : decode cX9_isShifted 14 = .ok (.istore_n 3, 1) := by decide +kernel
theorem dX9_isShifted_15 : decode cX9_isShifted 15 = .ok (.iload_n 3, 1) := by decide +kernel
theorem dX9_isShifted_16 : decode cX9_isShifted 16 = .ok (.aload_n 0, 1) := by decide +kernel
theorem dX9_isShifted_17 : decode cX9_isShifted 17 = .ok (.iload_n 1, 1) := by decide +kernel
theorem dX9_isShifted_18 : decode cX9_isShifted 18 = .ok (.invokevirtual 78, 3) := by decide +kernel
theorem dX9_isShifted_21 : decode cX9_isShifted 21 = .ok (.if_icmp .ge 21, 3) := by decide +kernel
theorem dX9_isShifted_24 : decode cX9_isShifted 24 = .ok (.aload_n 0, 1) := by decide +kernel
theorem dX9_isShifted_25 : decode cX9_isShifted 25 = .ok (.iload_n 1, 1) := by decide +kernel
theorem dX9_isShifted_26 : decode cX9_isShifted 26 = .ok (.iload_n 2, 1) := by decide +kernel
theorem dX9_isShifted_27 : decode cX9_isShifted 27 = .ok (.iload_n 3, 1) := by decide +kernel
theorem dX9_isShifted_28 : decode cX9_isShifted 28 = .ok (.invokevirtual 219, 3) := by decide +kernel
theorem dX9_isShifted_31 : decode cX9_isShifted 31 = .ok (.ifCond .le 5, 3) := by decide +kernel
theorem dX9_isShifted_34 : decode cX9_isShifted 34 = .ok (.iconst 0, 1) := by decide +kernel
theorem dX9_isShifted_35 : decode cX9_isShifted 35 = .ok (.ireturn, 1) := by decide +kernel
theorem dX9_isShifted_36 : decode cX9_isShifted 36 = .ok (.iinc 3 1, 3) := by decide +kernel
theorem dX9_isShifted_39 : decode cX9_isShifted 39 = .ok (.goto (-24), 3) := by decide +kernel
theorem dX9_isShifted_42 : decode cX9_isShifted 42 = .ok (.iinc 2 1, 3) := by decide +kernel
theorem dX9_isShifted_45 : decode cX9_isShifted 45 = .ok (.goto (-43), 3) := by decide +kernel
theorem dX9_isShifted_48 : decode cX9_isShifted 48 = .ok (.iconst 1, 1) := by decide +kernel
theorem dX9_isShifted_49 : decode cX9_isShifted 49 = .ok (.ireturn, 1) := by decide +kernel
theorem dX9_meetByThree_0 : decode cX9_meetByThree 0 = .ok (.iconst 0, 1) := by decide +kernel
theorem dX9_meetByThree_1 : decode cX9_meetByThree 1 = .ok (.istore_n 2, 1) := by decide +kernel
theorem dX9_meetByThree_2 : decode cX9_meetByThree 2 = .ok (.iload_n 2, 1) := by decide +kernel
theorem dX9_meetByThree_3 : decode cX9_meetByThree 3 = .ok (.sipush 128, 3) := by decide +kernel
theorem dX9_meetByThree_6 : decode cX9_meetByThree 6 = .ok (.if_icmp .ge 76, 3) := by decide +kernel
theorem dX9_meetByThree_9 : decode cX9_meetByThree 9 = .ok (.iconst 0, 1) := by decide +kernel
theorem dX9_meetByThree_10 : decode cX9_meetByThree 10 = .ok (.istore_n 3, 1) := by decide +kernel
theorem dX9_meetByThree_11 : decode cX9_meetByThree 11 = .ok (.iload_n 3, 1) := by decide +kernel
theorem dX9_meetByThree_12 : decode cX9_meetByThree 12 = .ok (.iload_n 2, 1) := by decide +kernel
theorem dX9_meetByThree_13 : decode cX9_meetByThree 13 = .ok (.if_icmp .gt 63, 3) := by decide +kernel
theorem dX9_meetByThree_16 : decode cX9_meetByThree 16 = .ok (.iconst 0, 1) := by decide +kernel
theorem dX9_meetByThree_17 : decode cX9_meetByThree 17 = .ok (.istore 4, 2) := by decide +kernel
theorem dX9_meetByThree_19 : decode cX9_meetByThree 19 = .ok (.iload 4, 2) := by decide +kernel
theorem dX9_meetByThree_21 : decode cX9_meetByThree 21 = .ok (.iload_n 3, 1) := by decide +kernel
theorem dX9_meetByThree_22 : decode cX9_meetByThree 22 = .ok (.if_icmp .gt 48, 3) := by decide +kernel
theorem dX9_meetByThree_25 : decode cX9_meetByThree 25 = .ok (.aload_n 0, 1) := by decide +kernel
theorem dX9_meetByThree_26 : decode cX9_meetByThree 26 = .ok (.iload_n 1, 1) := by decide +kernel
theorem dX9_meetByThree_27 : decode cX9_meetByThree 27 = .ok (.iload_n 2, 1) := by decide +kernel
theorem dX9_meetByThree_28 : decode cX9_meetByThree 28 = .ok (.invokevirtual 81, 3) := by decide +kernel
theorem dX9_meetByThree_31 : decode cX9_meetByThree 31 = .ok (.ifCond .eq 39, 3) := by decide +kernel
theorem dX9_meetByThree_34 : decode cX9_meetByThree 34 = .ok (.aload_n 0, 1) := by decide +kernel
theorem dX9_meetByThree_35 : decode cX9_meetByThree 35 = .ok (.iload_n 1, 1) := by decide +kernel
theorem dX9_meetByThree_36 : decode cX9_meetByThree 36 = .ok (.iload_n 3, 1) := by decide +kernel
theorem dX9_meetByThree_37 : decode cX9_meetByThree 37 = .ok (.invokevirtual 81, 3) := by decide +kernel
theorem dX9_meetByThree_40 : decode cX9_meetByThree 40 = .ok (.ifCond .eq 30, 3) := by decide +kernel
theorem dX9_meetByThree_43 : decode cX9_meetByThree 43 = .ok (.aload_n 0, 1) := by decide +kernel
theorem dX9_meetByThree_44 : decode cX9_meetByThree 44 = .ok (.iload_n 1, 1) := by decide +kernel
theorem dX9_meetByThree_45 : decode cX9_meetByThree 45 = .ok (.iload 4, 2) := by decide +kernel
theorem dX9_meetByThree_47 : decode cX9_meetByThree 47 = .ok (.invokevirtual 81, 3) := by decide +kernel
theorem dX9_meetByThree_50 : decode cX9_meetByThree 50 = .ok (.ifCond .eq 14, 3) := by decide +kernel
theorem dX9_meetByThree_53 : decode cX9_meetByThree 53 = .ok (.iload_n 2, 1) := by decide +kernel
theorem dX9_meetByThree_54 : decode cX9_meetByThree 54 = .ok (.iload_n 3, 1) := by decide +kernel
theorem dX9_meetByThree_55 : decode cX9_meetByThree 55 = .ok (.iand, 1) := by decide +kernel
theorem dX9_meetByThree_56 : decode cX9_meetByThree 56 = .ok (.iload 4, 2) := by decide +kernel
theorem dX9_meetByThree_58 : decode cX9_meetByThree 58 = .ok (.iand, 1) := by decide +kernel
theorem dX9_meetByThree_59 : decode cX9_meetByThree 59 = .ok (.ifCond .ne 5, 3) := by decide +kernel
theorem dX9_meetByThree_62 : decode cX9_meetByThree 62 = .ok (.iconst 0, 1) := by decide +kernel
theorem dX9_meetByThree_63 : decode cX9_meetByThree 63 = .ok (.ireturn, 1) := by decide +kernel
theorem dX9_meetByThree_64 : decode cX9_meetByThree 64 = .ok (.iinc 4 1, 3) := by decide +kernel
theorem dX9_meetByThree_67 : decode cX9_meetByThree 67 = .ok (.goto (-48), 3) := by decide +kernel
theorem dX9_meetByThree_70 : decode cX9_meetByThree 70 = .ok (.iinc 3 1, 3) := by decide +kernel
theorem dX9_meetByThree_73 : decode cX9_meetByThree 73 = .ok (.goto (-62), 3) := by decide +kernel
theorem dX9_meetByThree_76 : decode cX9_meetByThree 76 = .ok (.iinc 2 1, 3) := by decide +kernel
theorem dX9_meetByThree_79 : decode cX9_meetByThree 79 = .ok (.goto (-77), 3) := by decide +kernel
theorem dX9_meetByThree_82 : decode cX9_meetByThree 82 = .ok (.iconst 1, 1) := by decide +kernel
theorem dX9_meetByThree_83 : decode cX9_meetByThree 83 = .ok (.ireturn, 1) := by decide +kernel
theorem dX9_isClosed_0 : decode cX9_isClosed 0 = .ok (.iconst 0, 1) := by decide +kernel
theorem dX9_isClosed_1 : decode cX9_isClosed 1 = .ok (.istore_n 3, 1) := by decide +kernel
theorem dX9_isClosed_2 : decode cX9_isClosed 2 = .ok (.iload_n 3, 1) := by decide +kernel
theorem dX9_isClosed_3 : decode cX9_isClosed 3 = .ok (.sipush 128, 3) := by decide +kernel
theorem dX9_isClosed_6 : decode cX9_isClosed 6 = .ok (.if_icmp .ge 68, 3) := by decide +kernel
theorem dX9_isClosed_9 : decode cX9_isClosed 9 = .ok (.iconst 0, 1) := by decide +kernel
theorem dX9_isClosed_10 : decode cX9_isClosed 10 = .ok (.istore 4, 2) := by decide +kernel
theorem dX9_isClosed_12 : decode cX9_isClosed 12 = .ok (.iload 4, 2) := by decide +kernel
theorem dX9_isClosed_14 : decode cX9_isClosed 14 = .ok (.iload_n 3, 1) := by decide +kernel
theorem dX9_isClosed_15 : decode cX9_isClosed 15 = .ok (.if_icmp .ge 53, 3) := by decide +kernel
theorem dX9_isClosed_18 : decode cX9_isClosed 18 = .ok (.aload_n 0, 1) := by decide +kernel
theorem dX9_isClosed_19 : decode cX9_isClosed 19 = .ok (.iload_n 1, 1) := by decide +kernel
theorem dX9_isClosed_20 : decode cX9_isClosed 20 = .ok (.iload_n 3, 1) := by decide +kernel
theorem dX9_isClosed_21 : decode cX9_isClosed 21 = .ok (.invokevirtual 81, 3) := by decide +kernel
theorem dX9_isClosed_24 : decode cX9_isClosed 24 = .ok (.ifCond .eq 38, 3) := by decide +kernel
theorem dX9_isClosed_27 : decode cX9_isClosed 27 = .ok (.aload_n 0, 1) := by decide +kernel
theorem dX9_isClosed_28 : decode cX9_isClosed 28 = .ok (.iload_n 1, 1) := by decide +kernel
theorem dX9_isClosed_29 : decode cX9_isClosed 29 = .ok (.iload 4, 2) := by decide +kernel
theorem dX9_isClosed_31 : decode cX9_isClosed 31 = .ok (.invokevirtual 81, 3) := by decide +kernel
theorem dX9_isClosed_34 : decode cX9_isClosed 34 = .ok (.ifCond .eq 28, 3) := by decide +kernel
theorem dX9_isClosed_37 : decode cX9_isClosed 37 = .ok (.aload_n 0, 1) := by decide +kernel
theorem dX9_isClosed_38 : decode cX9_isClosed 38 = .ok (.iload_n 1, 1) := by decide +kernel
theorem dX9_isClosed_39 : decode cX9_isClosed 39 = .ok (.iload_n 2, 1) := by decide +kernel
theorem dX9_isClosed_40 : decode cX9_isClosed 40 = .ok (.ifCond .eq 10, 3) := by decide +kernel
theorem dX9_isClosed_43 : decode cX9_isClosed 43 = .ok (.iload_n 3, 1) := by decide +kernel
theorem dX9_isClosed_44 : decode cX9_isClosed 44 = .ok (.iload 4, 2) := by decide +kernel
theorem dX9_isClosed_46 : decode cX9_isClosed 46 = .ok (.ior, 1) := by decide +kernel
theorem dX9_isClosed_47 : decode cX9_isClosed 47 = .ok (.goto 7, 3) := by decide +kernel
theorem dX9_isClosed_50 : decode cX9_isClosed 50 = .ok (.iload_n 3, 1) := by decide +kernel
theorem dX9_isClosed_51 : decode cX9_isClosed 51 = .ok (.iload 4, 2) := by decide +kernel
theorem dX9_isClosed_53 : decode cX9_isClosed 53 = .ok (.iand, 1) := by decide +kernel
theorem dX9_isClosed_54 : decode cX9_isClosed 54 = .ok (.invokevirtual 81, 3) := by decide +kernel
theorem dX9_isClosed_57 : decode cX9_isClosed 57 = .ok (.ifCond .ne 5, 3) := by decide +kernel
theorem dX9_isClosed_60 : decode cX9_isClosed 60 = .ok (.iconst 0, 1) := by decide +kernel
theorem dX9_isClosed_61 : decode cX9_isClosed 61 = .ok (.ireturn, 1) := by decide +kernel
theorem dX9_isClosed_62 : decode cX9_isClosed 62 = .ok (.iinc 4 1, 3) := by decide +kernel
theorem dX9_isClosed_65 : decode cX9_isClosed 65 = .ok (.goto (-53), 3) := by decide +kernel
theorem dX9_isClosed_68 : decode cX9_isClosed 68 = .ok (.iinc 3 1, 3) := by decide +kernel
theorem dX9_isClosed_71 : decode cX9_isClosed 71 = .ok (.goto (-69), 3) := by decide +kernel
theorem dX9_isClosed_74 : decode cX9_isClosed 74 = .ok (.iconst 1, 1) := by decide +kernel
theorem dX9_isClosed_75 : decode cX9_isClosed 75 = .ok (.ireturn, 1) := by decide +kernel
theorem dX9_isSo_0 : decode cX9_isSo 0 = .ok (.iload_n 2, 1) := by decide +kernel
theorem dX9_isSo_1 : decode cX9_isSo 1 = .ok (.tableswitch 115 2 10 #[51, 58, 115, 115, 65, 89, 95, 101, 108], 51) := by decide +kernel
theorem dX9_isSo_52 : decode cX9_isSo 52 = .ok (.aload_n 0, 1) := by decide +kernel
theorem dX9_isSo_53 : decode cX9_isSo 53 = .ok (.iload_n 1, 1) := by decide +kernel
theorem dX9_isSo_54 : decode cX9_isSo 54 = .ok (.iconst 0, 1) := by decide +kernel
theorem dX9_isSo_55 : decode cX9_isSo 55 = .ok (.invokevirtual 222, 3) := by decide +kernel
theorem dX9_isSo_58 : decode cX9_isSo 58 = .ok (.ireturn, 1) := by decide +kernel
theorem dX9_isSo_59 : decode cX9_isSo 59 = .ok (.aload_n 0, 1) := by decide +kernel
theorem dX9_isSo_60 : decode cX9_isSo 60 = .ok (.iload_n 1, 1) := by decide +kernel
theorem dX9_isSo_61 : decode cX9_isSo 61 = .ok (.iconst 1, 1) := by decide +kernel
theorem dX9_isSo_62 : decode cX9_isSo 62 = .ok (.invokevirtual 222, 3) := by decide +kernel
theorem dX9_isSo_65 : decode cX9_isSo 65 = .ok (.ireturn, 1) := by decide +kernel
theorem dX9_isSo_66 : decode cX9_isSo 66 = .ok (.aload_n 0, 1) := by decide +kernel
theorem dX9_isSo_67 : decode cX9_isSo 67 = .ok (.iload_n 1, 1) := by decide +kernel
theorem dX9_isSo_68 : decode cX9_isSo 68 = .ok (.invokevirtual 97, 3) := by decide +kernel
theorem dX9_isSo_71 : decode cX9_isSo 71 = .ok (.ifCond .eq 13, 3) := by decide +kernel
theorem dX9_isSo_74 : decode cX9_isSo 74 = .ok (.aload_n 0, 1) := by decide +kernel
theorem dX9_isSo_75 : decode cX9_isSo 75 = .ok (.iload_n 1, 1) := by decide +kernel
theorem dX9_isSo_76 : decode cX9_isSo 76 = .ok (.iconst 5, 1) := by decide +kernel
theorem dX9_isSo_77 : decode cX9_isSo 77 = .ok (.iconst (-1), 1) := by decide +kernel
theorem dX9_isSo_78 : decode cX9_isSo 78 = .ok (.invokevirtual 206, 3) := by decide +kernel
theorem dX9_isSo_81 : decode cX9_isSo 81 = .ok (.ifCond .eq 7, 3) := by decide +kernel
theorem dX9_isSo_84 : decode cX9_isSo 84 = .ok (.iconst 1, 1) := by decide +kernel
theorem dX9_isSo_85 : decode cX9_isSo 85 = .ok (.goto 4, 3) := by decide +kernel
theorem dX9_isSo_88 : decode cX9_isSo 88 = .ok (.iconst 0, 1) := by decide +kernel
theorem dX9_isSo_89 : decode cX9_isSo 89 = .ok (.ireturn, 1) := by decide +kernel
theorem dX9_isSo_90 : decode cX9_isSo 90 = .ok (.aload_n 0, 1) := by decide +kernel
theorem dX9_isSo_91 : decode cX9_isSo 91 = .ok (.iload_n 1, 1) := by decide +kernel
theorem dX9_isSo_92 : decode cX9_isSo 92 = .ok (.invokevirtual 226, 3) := by decide +kernel
theorem dX9_isSo_95 : decode cX9_isSo 95 = .ok (.ireturn, 1) := by decide +kernel
theorem dX9_isSo_96 : decode cX9_isSo 96 = .ok (.aload_n 0, 1) := by decide +kernel
theorem dX9_isSo_97 : decode cX9_isSo 97 = .ok (.iload_n 1, 1) := by decide +kernel
theorem dX9_isSo_98 : decode cX9_isSo 98 = .ok (.invokevirtual 229, 3) := by decide +kernel
theorem dX9_isSo_101 : decode cX9_isSo 101 = .ok (.ireturn, 1) := by decide +kernel
theorem dX9_isSo_102 : decode cX9_isSo 102 = .ok (.aload_n 0, 1) := by decide +kernel
theorem dX9_isSo_103 : decode cX9_isSo 103 = .ok (.iload_n 1, 1) := by decide +kernel
theorem dX9_isSo_104 : decode cX9_isSo 104 = .ok (.iconst 0, 1) := by decide +kernel
theorem dX9_isSo_105 : decode cX9_isSo 105 = .ok (.invokevirtual 232, 3) := by decide +kernel
theorem dX9_isSo_108 : decode cX9_isSo 108 = .ok (.ireturn, 1) := by decide +kernel
theorem dX9_isSo_109 : decode cX9_isSo 109 = .ok (.aload_n 0, 1) := by decide +kernel
theorem dX9_isSo_110 : decode cX9_isSo 110 = .ok (.iload_n 1, 1) := by decide +kernel
theorem dX9_isSo_111 : decode cX9_isSo 111 = .ok (.iconst 1, 1) := by decide +kernel
theorem dX9_isSo_112 : decode cX9_isSo 112 = .ok (.invokevirtual 232, 3) := by decide +kernel
theorem dX9_isSo_115 : decode cX9_isSo 115 = .ok (.ireturn, 1) := by decide +kernel
theorem dX9_isSo_116 : decode cX9_isSo 116 = .ok (.aload_n 0, 1) := by decide +kernel
theorem dX9_isSo_117 : decode cX9_isSo 117 = .ok (.iload_n 1, 1) := by decide +kernel
theorem dX9_isSo_118 : decode cX9_isSo 118 = .ok (.iload_n 2, 1) := by decide +kernel
theorem dX9_isSo_119 : decode cX9_isSo 119 = .ok (.invokevirtual 235, 3) := by decide +kernel
theorem dX9_isSo_122 : decode cX9_isSo 122 = .ok (.ireturn, 1) := by decide +kernel
theorem dX9_is_0 : decode cX9_is 0 = .ok (.aload_n 0, 1) := by decide +kernel
theorem dX9_is_1 : decode cX9_is 1 = .ok (.iload_n 1, 1) := by decide +kernel
theorem dX9_is_2 : decode cX9_is 2 = .ok (.invokevirtual 75, 3) := by decide +kernel
theorem dX9_is_5 : decode cX9_is 5 = .ok (.ifCond .eq 15, 3) := by decide +kernel
theorem dX9_is_8 : decode cX9_is 8 = .ok (.iload_n 2, 1) := by decide +kernel
theorem dX9_is_9 : decode cX9_is 9 = .ok (.i2l, 1) := by decide +kernel
theorem dX9_is_10 : decode cX9_is 10 = .ok (.lconst 0, 1) := by decide +kernel
theorem dX9_is_11 : decode cX9_is 11 = .ok (.ldc2_w 238, 3) := by decide +kernel
theorem dX9_is_14 : decode cX9_is 14 = .ok (.invokestatic 63, 3) := by decide +kernel
theorem dX9_is_17 : decode cX9_is 17 = .ok (.ifCond .ne 6, 3) := by decide +kernel
theorem dX9_is_20 : decode cX9_is 20 = .ok (.bipush (-2), 2) := by decide +kernel
theorem dX9_is_22 : decode cX9_is 22 = .ok (.ireturn, 1) := by decide +kernel
theorem dX9_is_23 : decode cX9_is 23 = .ok (.aload_n 0, 1) := by decide +kernel
theorem dX9_is_24 : decode cX9_is 24 = .ok (.iload_n 1, 1) := by decide +kernel
theorem dX9_is_25 : decode cX9_is 25 = .ok (.iload_n 2, 1) := by decide +kernel
theorem dX9_is_26 : decode cX9_is 26 = .ok (.invokevirtual 240, 3) := by decide +kernel
theorem dX9_is_29 : decode cX9_is 29 = .ok (.ifCond .eq 7, 3) := by decide +kernel
theorem dX9_is_32 : decode cX9_is 32 = .ok (.iconst 1, 1) := by decide +kernel
theorem dX9_is_33 : decode cX9_is 33 = .ok (.goto 4, 3) := by decide +kernel
theorem dX9_is_36 : decode cX9_is 36 = .ok (.iconst 0, 1) := by decide +kernel
theorem dX9_is_37 : decode cX9_is 37 = .ok (.ireturn, 1) := by decide +kernel
theorem dX9_degreeOf_0 : decode cX9_degreeOf 0 = .ok (.iconst 0, 1) := by decide +kernel
theorem dX9_degreeOf_1 : decode cX9_degreeOf 1 = .ok (.istore_n 3, 1) := by decide +kernel
theorem dX9_degreeOf_2 : decode cX9_degreeOf 2 = .ok (.iconst 0, 1) := by decide +kernel
theorem dX9_degreeOf_3 : decode cX9_degreeOf 3 = .ok (.istore 4, 2) := by decide +kernel
theorem dX9_degreeOf_5 : decode cX9_degreeOf 5 = .ok (.iload 4, 2) := by decide +kernel
theorem dX9_degreeOf_7 : decode cX9_degreeOf 7 = .ok (.sipush 128, 3) := by decide +kernel
theorem dX9_degreeOf_10 : decode cX9_degreeOf 10 = .ok (.if_icmp .ge 36, 3) := by decide +kernel
theorem dX9_degreeOf_13 : decode cX9_degreeOf 13 = .ok (.iload_n 3, 1) := by decide +kernel
theorem dX9_degreeOf_14 : decode cX9_degreeOf 14 = .ok (.aload_n 0, 1) := by decide +kernel
theorem dX9_degreeOf_15 : decode cX9_degreeOf 15 = .ok (.iload_n 1, 1) := by decide +kernel
theorem dX9_degreeOf_16 : decode cX9_degreeOf 16 = .ok (.iload 4, 2) := by decide +kernel
theorem dX9_degreeOf_18 : decode cX9_degreeOf 18 = .ok (.invokevirtual 81, 3) := by decide +kernel
theorem dX9_degreeOf_21 : decode cX9_degreeOf 21 = .ok (.ifCond .eq 16, 3) := by decide +kernel
theorem dX9_degreeOf_24 : decode cX9_degreeOf 24 = .ok (.iload 4, 2) := by decide +kernel
theorem dX9_degreeOf_26 : decode cX9_degreeOf 26 = .ok (.iload_n 2, 1) := by decide +kernel
theorem dX9_degreeOf_27 : decode cX9_degreeOf 27 = .ok (.invokestatic 169, 3) := by decide +kernel
theorem dX9_degreeOf_30 : decode cX9_degreeOf 30 = .ok (.ifCond .eq 7, 3) := by decide +kernel
theorem dX9_degreeOf_33 : decode cX9_degreeOf 33 = .ok (.iconst 1, 1) := by decide +kernel
theorem dX9_degreeOf_34 : decode cX9_degreeOf 34 = .ok (.goto 4, 3) := by decide +kernel
theorem dX9_degreeOf_37 : decode cX9_degreeOf 37 = .ok (.iconst 0, 1) := by decide +kernel
theorem dX9_degreeOf_38 : decode cX9_degreeOf 38 = .ok (.iadd, 1) := by decide +kernel
theorem dX9_degreeOf_39 : decode cX9_degreeOf 39 = .ok (.istore_n 3, 1) := by decide +kernel
theorem dX9_degreeOf_40 : decode cX9_degreeOf 40 = .ok (.iinc 4 1, 3) := by decide +kernel
theorem dX9_degreeOf_43 : decode cX9_degreeOf 43 = .ok (.goto (-38), 3) := by decide +kernel
theorem dX9_degreeOf_46 : decode cX9_degreeOf 46 = .ok (.iload_n 3, 1) := by decide +kernel
theorem dX9_degreeOf_47 : decode cX9_degreeOf 47 = .ok (.ireturn, 1) := by decide +kernel
theorem dX9_degree_0 : decode cX9_degree 0 = .ok (.aload_n 0, 1) := by decide +kernel
theorem dX9_degree_1 : decode cX9_degree 1 = .ok (.iload_n 1, 1) := by decide +kernel
theorem dX9_degree_2 : decode cX9_degree 2 = .ok (.iload_n 2, 1) := by decide +kernel
theorem dX9_degree_3 : decode cX9_degree 3 = .ok (.invokevirtual 243, 3) := by decide +kernel
theorem dX9_degree_6 : decode cX9_degree 6 = .ok (.ifCond .eq 12, 3) := by decide +kernel
theorem dX9_degree_9 : decode cX9_degree 9 = .ok (.aload_n 0, 1) := by decide +kernel
theorem dX9_degree_10 : decode cX9_degree 10 = .ok (.iload_n 1, 1) := by decide +kernel
theorem dX9_degree_11 : decode cX9_degree 11 = .ok (.iload_n 2, 1) := by decide +kernel
theorem dX9_degree_12 : decode cX9_degree 12 = .ok (.invokevirtual 246, 3) := by decide +kernel
theorem dX9_degree_15 : decode cX9_degree 15 = .ok (.goto 5, 3) := by decide +kernel
theorem dX9_degree_18 : decode cX9_degree 18 = .ok (.bipush (-2), 2) := by decide +kernel
theorem dX9_degree_20 : decode cX9_degree 20 = .ok (.ireturn, 1) := by decide +kernel
theorem dX9_order_0 : decode cX9_order 0 = .ok (.aload_n 0, 1) := by decide +kernel
theorem dX9_order_1 : decode cX9_order 1 = .ok (.iload_n 1, 1) := by decide +kernel
theorem dX9_order_2 : decode cX9_order 2 = .ok (.iload_n 2, 1) := by decide +kernel
theorem dX9_order_3 : decode cX9_order 3 = .ok (.invokevirtual 243, 3) := by decide +kernel
theorem dX9_order_6 : decode cX9_order 6 = .ok (.ifCond .ne 6, 3) := by decide +kernel
theorem dX9_order_9 : decode cX9_order 9 = .ok (.bipush (-2), 2) := by decide +kernel
theorem dX9_order_11 : decode cX9_order 11 = .ok (.ireturn, 1) := by decide +kernel
theorem dX9_order_12 : decode cX9_order 12 = .ok (.iconst (-1), 1) := by decide +kernel
theorem dX9_order_13 : decode cX9_order 13 = .ok (.istore_n 3, 1) := by decide +kernel
theorem dX9_order_14 : decode cX9_order 14 = .ok (.iconst 0, 1) := by decide +kernel
theorem dX9_order_15 : decode cX9_order 15 = .ok (.istore 4, 2) := by decide +kernel
theorem dX9_order_17 : decode cX9_order 17 = .ok (.iload 4, 2) := by decide +kernel
theorem dX9_order_19 : decode cX9_order 19 = .ok (.aload_n 0, 1) := by decide +kernel
theorem dX9_order_20 : decode cX9_order 20 = .ok (.iload_n 1, 1) := by decide +kernel
theorem dX9_order_21 : decode cX9_order 21 = .ok (.invokevirtual 78, 3) := by decide +kernel
theorem dX9_order_24 : decode cX9_order 24 = .ok (.if_icmp .ge 91, 3) := by decide +kernel
theorem dX9_order_27 : decode cX9_order 27 = .ok (.iconst 0, 1) := by decide +kernel
theorem dX9_order_28 : decode cX9_order 28 = .ok (.istore 5, 2) := by decide +kernel
theorem dX9_order_30 : decode cX9_order 30 = .ok (.iconst 0, 1) := by decide +kernel
theorem dX9_order_31 : decode cX9_order 31 = .ok (.istore 6, 2) := by decide +kernel
theorem dX9_order_33 : decode cX9_order 33 = .ok (.iload 6, 2) := by decide +kernel
theorem dX9_order_35 : decode cX9_order 35 = .ok (.aload_n 0, 1) := by decide +kernel
theorem dX9_order_36 : decode cX9_order 36 = .ok (.iload_n 1, 1) := by decide +kernel
theorem dX9_order_37 : decode cX9_order 37 = .ok (.invokevirtual 78, 3) := by decide +kernel
theorem dX9_order_40 : decode cX9_order 40 = .ok (.if_icmp .ge 60, 3) := by decide +kernel
theorem dX9_order_43 : decode cX9_order 43 = .ok (.iload 5, 2) := by decide +kernel
theorem dX9_order_45 : decode cX9_order 45 = .ok (.aload_n 0, 1) := by decide +kernel
theorem dX9_order_46 : decode cX9_order 46 = .ok (.iload_n 1, 1) := by decide +kernel
theorem dX9_order_47 : decode cX9_order 47 = .ok (.iload 6, 2) := by decide +kernel
theorem dX9_order_49 : decode cX9_order 49 = .ok (.invokevirtual 246, 3) := by decide +kernel
theorem dX9_order_52 : decode cX9_order 52 = .ok (.aload_n 0, 1) := by decide +kernel
theorem dX9_order_53 : decode cX9_order 53 = .ok (.iload_n 1, 1) := by decide +kernel
theorem dX9_order_54 : decode cX9_order 54 = .ok (.iload 4, 2) := by decide +kernel
theorem dX9_order_56 : decode cX9_order 56 = .ok (.invokevirtual 246, 3) := by decide +kernel
theorem dX9_order_59 : decode cX9_order 59 = .ok (.if_icmp .gt 27, 3) := by decide +kernel
theorem dX9_order_62 : decode cX9_order 62 = .ok (.aload_n 0, 1) := by decide +kernel
theorem dX9_order_63 : decode cX9_order 63 = .ok (.iload_n 1, 1) := by decide +kernel
theorem dX9_order_64 : decode cX9_order 64 = .ok (.iload 6, 2) := by decide +kernel
theorem dX9_order_66 : decode cX9_order 66 = .ok (.invokevirtual 246, 3) := by decide +kernel
theorem dX9_order_69 : decode cX9_order 69 = .ok (.aload_n 0, 1) := by decide +kernel
theorem dX9_order_70 : decode cX9_order 70 = .ok (.iload_n 1, 1) := by decide +kernel
theorem dX9_order_71 : decode cX9_order 71 = .ok (.iload 4, 2) := by decide +kernel
theorem dX9_order_73 : decode cX9_order 73 = .ok (.invokevirtual 246, 3) := by decide +kernel
theorem dX9_order_76 : decode cX9_order 76 = .ok (.if_icmp .ne 14, 3) := by decide +kernel
theorem dX9_order_79 : decode cX9_order 79 = .ok (.iload 6, 2) := by decide +kernel
theorem dX9_order_81 : decode cX9_order 81 = .ok (.iload 4, 2) := by decide +kernel
theorem dX9_order_83 : decode cX9_order 83 = .ok (.if_icmp .ge 7, 3) := by decide +kernel
theorem dX9_order_86 : decode cX9_order 86 = .ok (.iconst 1, 1) := by decide +kernel
theorem dX9_order_87 : decode cX9_order 87 = .ok (.goto 4, 3) := by decide +kernel
theorem dX9_order_90 : decode cX9_order 90 = .ok (.iconst 0, 1) := by decide +kernel
theorem dX9_order_91 : decode cX9_order 91 = .ok (.iadd, 1) := by decide +kernel
theorem dX9_order_92 : decode cX9_order 92 = .ok (.istore 5, 2) := by decide +kernel
theorem dX9_order_94 : decode cX9_order 94 = .ok (.iinc 6 1, 3) := by decide +kernel
theorem dX9_order_97 : decode cX9_order 97 = .ok (.goto (-64), 3) := by decide +kernel
theorem dX9_order_100 : decode cX9_order 100 = .ok (.iload 5, 2) := by decide +kernel
theorem dX9_order_102 : decode cX9_order 102 = .ok (.iload_n 2, 1) := by decide +kernel
theorem dX9_order_103 : decode cX9_order 103 = .ok (.if_icmp .ne 6, 3) := by decide +kernel
theorem dX9_order_106 : decode cX9_order 106 = .ok (.iload 4, 2) := by decide +kernel
theorem dX9_order_108 : decode cX9_order 108 = .ok (.istore_n 3, 1) := by decide +kernel
theorem dX9_order_109 : decode cX9_order 109 = .ok (.iinc 4 1, 3) := by decide +kernel
theorem dX9_order_112 : decode cX9_order 112 = .ok (.goto (-95), 3) := by decide +kernel
theorem dX9_order_115 : decode cX9_order 115 = .ok (.iload_n 3, 1) := by decide +kernel
theorem dX9_order_116 : decode cX9_order 116 = .ok (.ireturn, 1) := by decide +kernel
theorem dX9_level_0 : decode cX9_level 0 = .ok (.aload_n 0, 1) := by decide +kernel
theorem dX9_level_1 : decode cX9_level 1 = .ok (.iload_n 1, 1) := by decide +kernel
theorem dX9_level_2 : decode cX9_level 2 = .ok (.invokevirtual 75, 3) := by decide +kernel
theorem dX9_level_5 : decode cX9_level 5 = .ok (.ifCond .eq 18, 3) := by decide +kernel
theorem dX9_level_8 : decode cX9_level 8 = .ok (.iload_n 2, 1) := by decide +kernel
theorem dX9_level_9 : decode cX9_level 9 = .ok (.i2l, 1) := by decide +kernel
theorem dX9_level_10 : decode cX9_level 10 = .ok (.lconst 0, 1) := by decide +kernel
theorem dX9_level_11 : decode cX9_level 11 = .ok (.aload_n 0, 1) := by decide +kernel
theorem dX9_level_12 : decode cX9_level 12 = .ok (.iload_n 1, 1) := by decide +kernel
theorem dX9_level_13 : decode cX9_level 13 = .ok (.invokevirtual 78, 3) := by decide +kernel
theorem dX9_level_16 : decode cX9_level 16 = .ok (.i2l, 1) := by decide +kernel
theorem dX9_level_17 : decode cX9_level 17 = .ok (.invokestatic 63, 3) := by decide +kernel
theorem dX9_level_20 : decode cX9_level 20 = .ok (.ifCond .ne 6, 3) := by decide +kernel
theorem dX9_level_23 : decode cX9_level 23 = .ok (.bipush (-2), 2) := by decide +kernel
theorem dX9_level_25 : decode cX9_level 25 = .ok (.ireturn, 1) := by decide +kernel
theorem dX9_level_26 : decode cX9_level 26 = .ok (.iconst 0, 1) := by decide +kernel
theorem dX9_level_27 : decode cX9_level 27 = .ok (.istore_n 3, 1) := by decide +kernel
theorem dX9_level_28 : decode cX9_level 28 = .ok (.iconst 0, 1) := by decide +kernel
theorem dX9_level_29 : decode cX9_level 29 = .ok (.istore 4, 2) := by decide +kernel
theorem dX9_level_31 : decode cX9_level 31 = .ok (.iload 4, 2) := by decide +kernel
theorem dX9_level_33 : decode cX9_level 33 = .ok (.sipush 128, 3) := by decide +kernel
theorem dX9_level_36 : decode cX9_level 36 = .ok (.if_icmp .ge 36, 3) := by decide +kernel
theorem dX9_level_39 : decode cX9_level 39 = .ok (.iload_n 3, 1) := by decide +kernel
theorem dX9_level_40 : decode cX9_level 40 = .ok (.aload_n 0, 1) := by decide +kernel
theorem dX9_level_41 : decode cX9_level 41 = .ok (.iload_n 1, 1) := by decide +kernel
theorem dX9_level_42 : decode cX9_level 42 = .ok (.iload 4, 2) := by decide +kernel
theorem dX9_level_44 : decode cX9_level 44 = .ok (.invokevirtual 81, 3) := by decide +kernel
theorem dX9_level_47 : decode cX9_level 47 = .ok (.ifCond .eq 16, 3) := by decide +kernel
theorem dX9_level_50 : decode cX9_level 50 = .ok (.iload 4, 2) := by decide +kernel
theorem dX9_level_52 : decode cX9_level 52 = .ok (.invokestatic 198, 3) := by decide +kernel
theorem dX9_level_55 : decode cX9_level 55 = .ok (.iload_n 2, 1) := by decide +kernel
theorem dX9_level_56 : decode cX9_level 56 = .ok (.if_icmp .ne 7, 3) := by decide +kernel
theorem dX9_level_59 : decode cX9_level 59 = .ok (.iconst 1, 1) := by decide +kernel
theorem dX9_level_60 : decode cX9_level 60 = .ok (.goto 4, 3) := by decide +kernel
theorem dX9_level_63 : decode cX9_level 63 = .ok (.iconst 0, 1) := by decide +kernel
theorem dX9_level_64 : decode cX9_level 64 = .ok (.iadd, 1) := by decide +kernel
theorem dX9_level_65 : decode cX9_level 65 = .ok (.istore_n 3, 1) := by decide +kernel
theorem dX9_level_66 : decode cX9_level 66 = .ok (.iinc 4 1, 3) := by decide +kernel
theorem dX9_level_69 : decode cX9_level 69 = .ok (.goto (-38), 3) := by decide +kernel
theorem dX9_level_72 : decode cX9_level 72 = .ok (.iload_n 3, 1) := by decide +kernel
theorem dX9_level_73 : decode cX9_level 73 = .ok (.ireturn, 1) := by decide +kernel
theorem dX9_laysShadow_0 : decode cX9_laysShadow 0 = .ok (.iconst 0, 1) := by decide +kernel
theorem dX9_laysShadow_1 : decode cX9_laysShadow 1 = .ok (.istore_n 3, 1) := by decide +kernel
theorem dX9_laysShadow_2 : decode cX9_laysShadow 2 = .ok (.iload_n 3, 1) := by decide +kernel
theorem dX9_laysShadow_3 : decode cX9_laysShadow 3 = .ok (.iconst 1, 1) := by decide +kernel
theorem dX9_laysShadow_4 : decode cX9_laysShadow 4 = .ok (.aload_n 0, 1) := by decide +kernel
theorem dX9_laysShadow_5 : decode cX9_laysShadow 5 = .ok (.iload_n 1, 1) := by decide +kernel
theorem dX9_laysShadow_6 : decode cX9_laysShadow 6 = .ok (.invokevirtual 78, 3) := by decide +kernel
theorem dX9_laysShadow_9 : decode cX9_laysShadow 9 = .ok (.ishl, 1) := by decide +kernel
theorem dX9_laysShadow_10 : decode cX9_laysShadow 10 = .ok (.if_icmp .ge 59, 3) := by decide +kernel
theorem dX9_laysShadow_13 : decode cX9_laysShadow 13 = .ok (.iconst 0, 1) := by decide +kernel
theorem dX9_laysShadow_14 : decode cX9_laysShadow 14 = .ok (.istore 4, 2) := by decide +kernel
theorem dX9_laysShadow_16 : decode cX9_laysShadow 16 = .ok (.iload 4, 2) := by decide +kernel
theorem dX9_laysShadow_18 : decode cX9_laysShadow 18 = .ok (.aload_n 0, 1) := by decide +kernel
theorem dX9_laysShadow_19 : decode cX9_laysShadow 19 = .ok (.iload_n 1, 1) := by decide +kernel
theorem dX9_laysShadow_20 : decode cX9_laysShadow 20 = .ok (.invokevirtual 78, 3) := by decide +kernel
theorem dX9_laysShadow_23 : decode cX9_laysShadow 23 = .ok (.if_icmp .ge 40, 3) := by decide +kernel
theorem dX9_laysShadow_26 : decode cX9_laysShadow 26 = .ok (.aload_n 0, 1) := by decide +kernel
theorem dX9_laysShadow_27 : decode cX9_laysShadow 27 = .ok (.iload_n 1, 1) := by decide +kernel
theorem dX9_laysShadow_28 : decode cX9_laysShadow 28 = .ok (.iload_n 3, 1) := by decide +kernel
theorem dX9_laysShadow_29 : decode cX9_laysShadow 29 = .ok (.invokevirtual 81, 3) := by decide +kernel
theorem dX9_laysShadow_32 : decode cX9_laysShadow 32 = .ok (.ifCond .eq 25, 3) := by decide +kernel
theorem dX9_laysShadow_35 : decode cX9_laysShadow 35 = .ok (.iload_n 3, 1) := by decide +kernel
theorem dX9_laysShadow_36 : decode cX9_laysShadow 36 = .ok (.iload 4, 2) := by decide +kernel
theorem dX9_laysShadow_38 : decode cX9_laysShadow 38 = .ok (.invokestatic 169, 3) := by decide +kernel
theorem dX9_laysShadow_41 : decode cX9_laysShadow 41 = .ok (.iload_n 2, 1) := by decide +kernel
theorem dX9_laysShadow_42 : decode cX9_laysShadow 42 = .ok (.if_icmp .eq 15, 3) := by decide +kernel
theorem dX9_laysShadow_45 : decode cX9_laysShadow 45 = .ok (.aload_n 0, 1) := by decide +kernel
theorem dX9_laysShadow_46 : decode cX9_laysShadow 46 = .ok (.getfield 13, 3) := by decide +kernel
theorem dX9_laysShadow_49 : decode cX9_laysShadow 49 = .ok (.iload_n 3, 1) := by decide +kernel
theorem dX9_laysShadow_50 : decode cX9_laysShadow 50 = .ok (.iconst 1, 1) := by decide +kernel
theorem dX9_laysShadow_51 : decode cX9_laysShadow 51 = .ok (.iload 4, 2) := by decide +kernel
theorem dX9_laysShadow_53 : decode cX9_laysShadow 53 = .ok (.ishl, 1) := by decide +kernel
theorem dX9_laysShadow_54 : decode cX9_laysShadow 54 = .ok (.ixor, 1) := by decide +kernel
theorem dX9_laysShadow_55 : decode cX9_laysShadow 55 = .ok (.iconst 1, 1) := by decide +kernel
theorem dX9_laysShadow_56 : decode cX9_laysShadow 56 = .ok (.bastore, 1) := by decide +kernel
theorem dX9_laysShadow_57 : decode cX9_laysShadow 57 = .ok (.iinc 4 1, 3) := by decide +kernel
theorem dX9_laysShadow_60 : decode cX9_laysShadow 60 = .ok (.goto (-44), 3) := by decide +kernel
theorem dX9_laysShadow_63 : decode cX9_laysShadow 63 = .ok (.iinc 3 1, 3) := by decide +kernel
theorem dX9_laysShadow_66 : decode cX9_laysShadow 66 = .ok (.goto (-64), 3) := by decide +kernel
theorem dX9_laysShadow_69 : decode cX9_laysShadow 69 = .ok (.return_, 1) := by decide +kernel
theorem dX9_laysWithin_0 : decode cX9_laysWithin 0 = .ok (.iconst 0, 1) := by decide +kernel
theorem dX9_laysWithin_1 : decode cX9_laysWithin 1 = .ok (.istore_n 3, 1) := by decide +kernel
theorem dX9_laysWithin_2 : decode cX9_laysWithin 2 = .ok (.iload_n 3, 1) := by decide +kernel
theorem dX9_laysWithin_3 : decode cX9_laysWithin 3 = .ok (.iconst 1, 1) := by decide +kernel
theorem dX9_laysWithin_4 : decode cX9_laysWithin 4 = .ok (.aload_n 0, 1) := by decide +kernel
theorem dX9_laysWithin_5 : decode cX9_laysWithin 5 = .ok (.iload_n 1, 1) := by decide +kernel
theorem dX9_laysWithin_6 : decode cX9_laysWithin 6 = .ok (.invokevirtual 78, 3) := by decide +kernel
theorem dX9_laysWithin_9 : decode cX9_laysWithin 9 = .ok (.ishl, 1) := by decide +kernel
theorem dX9_laysWithin_10 : decode cX9_laysWithin 10 = .ok (.if_icmp .ge 64, 3) := by decide +kernel
theorem dX9_laysWithin_13 : decode cX9_laysWithin 13 = .ok (.iconst 0, 1) := by decide +kernel
theorem dX9_laysWithin_14 : decode cX9_laysWithin 14 = .ok (.istore 4, 2) := by decide +kernel
theorem dX9_laysWithin_16 : decode cX9_laysWithin 16 = .ok (.iload 4, 2) := by decide +kernel
theorem dX9_laysWithin_18 : decode cX9_laysWithin 18 = .ok (.iconst 1, 1) := by decide +kernel
theorem dX9_laysWithin_19 : decode cX9_laysWithin 19 = .ok (.aload_n 0, 1) := by decide +kernel
theorem dX9_laysWithin_20 : decode cX9_laysWithin 20 = .ok (.iload_n 1, 1) := by decide +kernel
theorem dX9_laysWithin_21 : decode cX9_laysWithin 21 = .ok (.invokevirtual 78, 3) := by decide +kernel
theorem dX9_laysWithin_24 : decode cX9_laysWithin 24 = .ok (.ishl, 1) := by decide +kernel
theorem dX9_laysWithin_25 : decode cX9_laysWithin 25 = .ok (.if_icmp .ge 43, 3) := by decide +kernel
theorem dX9_laysWithin_28 : decode cX9_laysWithin 28 = .ok (.aload_n 0, 1) := by decide +kernel
theorem dX9_laysWithin_29 : decode cX9_laysWithin 29 = .ok (.iload_n 1, 1) := by decide +kernel
theorem dX9_laysWithin_30 : decode cX9_laysWithin 30 = .ok (.iload_n 3, 1) := by decide +kernel
theorem dX9_laysWithin_31 : decode cX9_laysWithin 31 = .ok (.invokevirtual 81, 3) := by decide +kernel
theorem dX9_laysWithin_34 : decode cX9_laysWithin 34 = .ok (.ifCond .eq 28, 3) := by decide +kernel
theorem dX9_laysWithin_37 : decode cX9_laysWithin 37 = .ok (.iload_n 3, 1) := by decide +kernel
theorem dX9_laysWithin_38 : decode cX9_laysWithin 38 = .ok (.iload 4, 2) := by decide +kernel
theorem dX9_laysWithin_40 : decode cX9_laysWithin 40 = .ok (.iand, 1) := by decide +kernel
theorem dX9_laysWithin_41 : decode cX9_laysWithin 41 = .ok (.iload_n 2, 1) := by decide +kernel
theorem dX9_laysWithin_42 : decode cX9_laysWithin 42 = .ok (.ifCond .eq 7, 3) := by decide +kernel
theorem dX9_laysWithin_45 : decode cX9_laysWithin 45 = .ok (.iload_n 3, 1) := by decide +kernel
theorem dX9_laysWithin_46 : decode cX9_laysWithin 46 = .ok (.goto 5, 3) := by decide +kernel
theorem dX9_laysWithin_49 : decode cX9_laysWithin 49 = .ok (.iload 4, 2) := by decide +kernel
theorem dX9_laysWithin_51 : decode cX9_laysWithin 51 = .ok (.if_icmp .ne 11, 3) := by decide +kernel
theorem dX9_laysWithin_54 : decode cX9_laysWithin 54 = .ok (.aload_n 0, 1) := by decide +kernel
theorem dX9_laysWithin_55 : decode cX9_laysWithin 55 = .ok (.getfield 13, 3) := by decide +kernel
theorem dX9_laysWithin_58 : decode cX9_laysWithin 58 = .ok (.iload 4, 2) := by decide +kernel
theorem dX9_laysWithin_60 : decode cX9_laysWithin 60 = .ok (.iconst 1, 1) := by decide +kernel
theorem dX9_laysWithin_61 : decode cX9_laysWithin 61 = .ok (.bastore, 1) := by decide +kernel
theorem dX9_laysWithin_62 : decode cX9_laysWithin 62 = .ok (.iinc 4 1, 3) := by decide +kernel
theorem dX9_laysWithin_65 : decode cX9_laysWithin 65 = .ok (.goto (-49), 3) := by decide +kernel
theorem dX9_laysWithin_68 : decode cX9_laysWithin 68 = .ok (.iinc 3 1, 3) := by decide +kernel
theorem dX9_laysWithin_71 : decode cX9_laysWithin 71 = .ok (.goto (-69), 3) := by decide +kernel
theorem dX9_laysWithin_74 : decode cX9_laysWithin 74 = .ok (.return_, 1) := by decide +kernel
theorem dX9_laysClosed_0 : decode cX9_laysClosed 0 = .ok (.aload_n 0, 1) := by decide +kernel
theorem dX9_laysClosed_1 : decode cX9_laysClosed 1 = .ok (.iload_n 1, 1) := by decide +kernel
theorem dX9_laysClosed_2 : decode cX9_laysClosed 2 = .ok (.invokevirtual 249, 3) := by decide +kernel
theorem dX9_laysClosed_5 : decode cX9_laysClosed 5 = .ok (.iconst 1, 1) := by decide +kernel
theorem dX9_laysClosed_6 : decode cX9_laysClosed 6 = .ok (.istore_n 3, 1) := by decide +kernel
theorem dX9_laysClosed_7 : decode cX9_laysClosed 7 = .ok (.iload_n 3, 1) := by decide +kernel
theorem dX9_laysClosed_8 : decode cX9_laysClosed 8 = .ok (.ifCond .eq 103, 3) := by decide +kernel
theorem dX9_laysClosed_11 : decode cX9_laysClosed 11 = .ok (.iconst 0, 1) := by decide +kernel
theorem dX9_laysClosed_12 : decode cX9_laysClosed 12 = .ok (.istore_n 3, 1) := by decide +kernel
theorem dX9_laysClosed_13 : decode cX9_laysClosed 13 = .ok (.iconst 0, 1) := by decide +kernel
theorem dX9_laysClosed_14 : decode cX9_laysClosed 14 = .ok (.istore 4, 2) := by decide +kernel
theorem dX9_laysClosed_16 : decode cX9_laysClosed 16 = .ok (.iload 4, 2) := by decide +kernel
theorem dX9_laysClosed_18 : decode cX9_laysClosed 18 = .ok (.sipush 128, 3) := by decide +kernel
theorem dX9_laysClosed_21 : decode cX9_laysClosed 21 = .ok (.if_icmp .ge 87, 3) := by decide +kernel
theorem dX9_laysClosed_24 : decode cX9_laysClosed 24 = .ok (.iconst 0, 1) := by decide +kernel
theorem dX9_laysClosed_25 : decode cX9_laysClosed 25 = .ok (.istore 5, 2) := by decide +kernel
theorem dX9_laysClosed_27 : decode cX9_laysClosed 27 = .ok (.iload 5, 2) := by decide +kernel
theorem dX9_laysClosed_29 : decode cX9_laysClosed 29 = .ok (.iload 4, 2) := by decide +kernel
theorem dX9_laysClosed_31 : decode cX9_laysClosed 31 = .ok (.if_icmp .ge 71, 3) := by decide +kernel
theorem dX9_laysClosed_34 : decode cX9_laysClosed 34 = .ok (.iload_n 2, 1) := by decide +kernel
theorem dX9_laysClosed_35 : decode cX9_laysClosed 35 = .ok (.ifCond .eq 11, 3) := by decide +kernel
theorem dX9_laysClosed_38 : decode cX9_laysClosed 38 = .ok (.iload 4, 2) := by decide +kernel
theorem dX9_laysClosed_40 : decode cX9_laysClosed 40 = .ok (.iload 5, 2) := by decide +kernel
theorem dX9_laysClosed_42 : decode cX9_laysClosed 42 = .ok (.ior, 1) := by decide +kernel
theorem dX9_laysClosed_43 : decode cX9_laysClosed 43 = .ok (.goto 8, 3) := by decide +kernel
theorem dX9_laysClosed_46 : decode cX9_laysClosed 46 = .ok (.iload 4, 2) := by decide +kernel
theorem dX9_laysClosed_48 : decode cX9_laysClosed 48 = .ok (.iload 5, 2) := by decide +kernel
theorem dX9_laysClosed_50 : decode cX9_laysClosed 50 = .ok (.iand, 1) := by decide +kernel
theorem dX9_laysClosed_51 : decode cX9_laysClosed 51 = .ok (.istore 6, 2) := by decide +kernel
theorem dX9_laysClosed_53 : decode cX9_laysClosed 53 = .ok (.aload_n 0, 1) := by decide +kernel
theorem dX9_laysClosed_54 : decode cX9_laysClosed 54 = .ok (.getfield 13, 3) := by decide +kernel
theorem dX9_laysClosed_57 : decode cX9_laysClosed 57 = .ok (.iload 4, 2) := by decide +kernel
theorem dX9_laysClosed_59 : decode cX9_laysClosed 59 = .ok (.baload, 1) := by decide +kernel
theorem dX9_laysClosed_60 : decode cX9_laysClosed 60 = .ok (.ifCond .eq 36, 3) := by decide +kernel
theorem dX9_laysClosed_63 : decode cX9_laysClosed 63 = .ok (.aload_n 0, 1) := by decide +kernel
theorem dX9_laysClosed_64 : decode cX9_laysClosed 64 = .ok (.getfield 13, 3) := by decide +kernel
theorem dX9_laysClosed_67 : decode cX9_laysClosed 67 = .ok (.iload 5, 2) := by decide +kernel
theorem dX9_laysClosed_69 : decode cX9_laysClosed 69 = .ok (.baload, 1) := by decide +kernel
theorem dX9_laysClosed_70 : decode cX9_laysClosed 70 = .ok (.ifCond .eq 26, 3) := by decide +kernel
theorem dX9_laysClosed_73 : decode cX9_laysClosed 73 = .ok (.aload_n 0, 1) := by decide +kernel
theorem dX9_laysClosed_74 : decode cX9_laysClosed 74 = .ok (.getfield 13, 3) := by decide +kernel
theorem dX9_laysClosed_77 : decode cX9_laysClosed 77 = .ok (.iload 6, 2) := by decide +kernel
theorem dX9_laysClosed_79 : decode cX9_laysClosed 79 = .ok (.baload, 1) := by decide +kernel
theorem dX9_laysClosed_80 : decode cX9_laysClosed 80 = .ok (.ifCond .eq 6, 3) := by decide +kernel
theorem dX9_laysClosed_83 : decode cX9_laysClosed 83 = .ok (.goto 13, 3) := by decide +kernel
theorem dX9_laysClosed_86 : decode cX9_laysClosed 86 = .ok (.aload_n 0, 1) := by decide +kernel
theorem dX9_laysClosed_87 : decode cX9_laysClosed 87 = .ok (.getfield 13, 3) := by decide +kernel
theorem dX9_laysClosed_90 : decode cX9_laysClosed 90 = .ok (.iload 6, 2) := by decide +kernel
theorem dX9_laysClosed_92 : decode cX9_laysClosed 92 = .ok (.iconst 1, 1) := by decide +kernel
theorem dX9_laysClosed_93 : decode cX9_laysClosed 93 = .ok (.bastore, 1) := by decide +kernel
theorem dX9_laysClosed_94 : decode cX9_laysClosed 94 = .ok (.iconst 1, 1) := by decide +kernel
theorem dX9_laysClosed_95 : decode cX9_laysClosed 95 = .ok (.istore_n 3, 1) := by decide +kernel
theorem dX9_laysClosed_96 : decode cX9_laysClosed 96 = .ok (.iinc 5 1, 3) := by decide +kernel
theorem dX9_laysClosed_99 : decode cX9_laysClosed 99 = .ok (.goto (-72), 3) := by decide +kernel
theorem dX9_laysClosed_102 : decode cX9_laysClosed 102 = .ok (.iinc 4 1, 3) := by decide +kernel
theorem dX9_laysClosed_105 : decode cX9_laysClosed 105 = .ok (.goto (-89), 3) := by decide +kernel
theorem dX9_laysClosed_108 : decode cX9_laysClosed 108 = .ok (.goto (-101), 3) := by decide +kernel
theorem dX9_laysClosed_111 : decode cX9_laysClosed 111 = .ok (.return_, 1) := by decide +kernel
theorem dX9_laysEnds_0 : decode cX9_laysEnds 0 = .ok (.iconst 0, 1) := by decide +kernel
theorem dX9_laysEnds_1 : decode cX9_laysEnds 1 = .ok (.istore_n 3, 1) := by decide +kernel
theorem dX9_laysEnds_2 : decode cX9_laysEnds 2 = .ok (.iload_n 3, 1) := by decide +kernel
theorem dX9_laysEnds_3 : decode cX9_laysEnds 3 = .ok (.sipush 128, 3) := by decide +kernel
theorem dX9_laysEnds_6 : decode cX9_laysEnds 6 = .ok (.if_icmp .ge 87, 3) := by decide +kernel
theorem dX9_laysEnds_9 : decode cX9_laysEnds 9 = .ok (.aload_n 0, 1) := by decide +kernel
theorem dX9_laysEnds_10 : decode cX9_laysEnds 10 = .ok (.iload_n 1, 1) := by decide +kernel
theorem dX9_laysEnds_11 : decode cX9_laysEnds 11 = .ok (.iload_n 3, 1) := by decide +kernel
theorem dX9_laysEnds_12 : decode cX9_laysEnds 12 = .ok (.invokevirtual 81, 3) := by decide +kernel
theorem dX9_laysEnds_15 : decode cX9_laysEnds 15 = .ok (.istore 4, 2) := by decide +kernel
theorem dX9_laysEnds_17 : decode cX9_laysEnds 17 = .ok (.iconst 0, 1) := by decide +kernel
theorem dX9_laysEnds_18 : decode cX9_laysEnds 18 = .ok (.istore 5, 2) := by decide +kernel
theorem dX9_laysEnds_20 : decode cX9_laysEnds 20 = .ok (.iload 5, 2) := by decide +kernel
theorem dX9_laysEnds_22 : decode cX9_laysEnds 22 = .ok (.sipush 128, 3) := by decide +kernel
theorem dX9_laysEnds_25 : decode cX9_laysEnds 25 = .ok (.if_icmp .ge 54, 3) := by decide +kernel
theorem dX9_laysEnds_28 : decode cX9_laysEnds 28 = .ok (.iload 4, 2) := by decide +kernel
theorem dX9_laysEnds_30 : decode cX9_laysEnds 30 = .ok (.ifCond .eq 49, 3) := by decide +kernel
theorem dX9_laysEnds_33 : decode cX9_laysEnds 33 = .ok (.iload 5, 2) := by decide +kernel
theorem dX9_laysEnds_35 : decode cX9_laysEnds 35 = .ok (.iload_n 3, 1) := by decide +kernel
theorem dX9_laysEnds_36 : decode cX9_laysEnds 36 = .ok (.if_icmp .eq 30, 3) := by decide +kernel
theorem dX9_laysEnds_39 : decode cX9_laysEnds 39 = .ok (.aload_n 0, 1) := by decide +kernel
theorem dX9_laysEnds_40 : decode cX9_laysEnds 40 = .ok (.iload_n 1, 1) := by decide +kernel
theorem dX9_laysEnds_41 : decode cX9_laysEnds 41 = .ok (.iload 5, 2) := by decide +kernel
theorem dX9_laysEnds_43 : decode cX9_laysEnds 43 = .ok (.invokevirtual 81, 3) := by decide +kernel
theorem dX9_laysEnds_46 : decode cX9_laysEnds 46 = .ok (.ifCond .eq 20, 3) := by decide +kernel
theorem dX9_laysEnds_49 : decode cX9_laysEnds 49 = .ok (.iload_n 3, 1) := by decide +kernel
theorem dX9_laysEnds_50 : decode cX9_laysEnds 50 = .ok (.iload 5, 2) := by decide +kernel
theorem dX9_laysEnds_52 : decode cX9_laysEnds 52 = .ok (.iand, 1) := by decide +kernel
theorem dX9_laysEnds_53 : decode cX9_laysEnds 53 = .ok (.iload_n 2, 1) := by decide +kernel
theorem dX9_laysEnds_54 : decode cX9_laysEnds 54 = .ok (.ifCond .eq 7, 3) := by decide +kernel
theorem dX9_laysEnds_57 : decode cX9_laysEnds 57 = .ok (.iload_n 3, 1) := by decide +kernel
theorem dX9_laysEnds_58 : decode cX9_laysEnds 58 = .ok (.goto 5, 3) := by decide +kernel
theorem dX9_laysEnds_61 : decode cX9_laysEnds 61 = .ok (.iload 5, 2) := by decide +kernel
theorem dX9_laysEnds_63 : decode cX9_laysEnds 63 = .ok (.if_icmp .eq 7, 3) := by decide +kernel
theorem dX9_laysEnds_66 : decode cX9_laysEnds 66 = .ok (.iconst 1, 1) := by decide +kernel
theorem dX9_laysEnds_67 : decode cX9_laysEnds 67 = .ok (.goto 4, 3) := by decide +kernel
theorem dX9_laysEnds_70 : decode cX9_laysEnds 70 = .ok (.iconst 0, 1) := by decide +kernel
theorem dX9_laysEnds_71 : decode cX9_laysEnds 71 = .ok (.istore 4, 2) := by decide +kernel
theorem dX9_laysEnds_73 : decode cX9_laysEnds 73 = .ok (.iinc 5 1, 3) := by decide +kernel
theorem dX9_laysEnds_76 : decode cX9_laysEnds 76 = .ok (.goto (-56), 3) := by decide +kernel
theorem dX9_laysEnds_79 : decode cX9_laysEnds 79 = .ok (.aload_n 0, 1) := by decide +kernel
theorem dX9_laysEnds_80 : decode cX9_laysEnds 80 = .ok (.getfield 13, 3) := by decide +kernel
theorem dX9_laysEnds_83 : decode cX9_laysEnds 83 = .ok (.iload_n 3, 1) := by decide +kernel
theorem dX9_laysEnds_84 : decode cX9_laysEnds 84 = .ok (.iload 4, 2) := by decide +kernel
theorem dX9_laysEnds_86 : decode cX9_laysEnds 86 = .ok (.bastore, 1) := by decide +kernel
theorem dX9_laysEnds_87 : decode cX9_laysEnds 87 = .ok (.iinc 3 1, 3) := by decide +kernel
theorem dX9_laysEnds_90 : decode cX9_laysEnds 90 = .ok (.goto (-88), 3) := by decide +kernel
theorem dX9_laysEnds_93 : decode cX9_laysEnds 93 = .ok (.return_, 1) := by decide +kernel
theorem dX9_meetsAll_0 : decode cX9_meetsAll 0 = .ok (.iconst 0, 1) := by decide +kernel
theorem dX9_meetsAll_1 : decode cX9_meetsAll 1 = .ok (.istore_n 3, 1) := by decide +kernel
theorem dX9_meetsAll_2 : decode cX9_meetsAll 2 = .ok (.iload_n 3, 1) := by decide +kernel
theorem dX9_meetsAll_3 : decode cX9_meetsAll 3 = .ok (.sipush 128, 3) := by decide +kernel
theorem dX9_meetsAll_6 : decode cX9_meetsAll 6 = .ok (.if_icmp .ge 26, 3) := by decide +kernel
theorem dX9_meetsAll_9 : decode cX9_meetsAll 9 = .ok (.aload_n 0, 1) := by decide +kernel
theorem dX9_meetsAll_10 : decode cX9_meetsAll 10 = .ok (.iload_n 1, 1) := by decide +kernel
theorem dX9_meetsAll_11 : decode cX9_meetsAll 11 = .ok (.iload_n 3, 1) := by decide +kernel
theorem dX9_meetsAll_12 : decode cX9_meetsAll 12 = .ok (.invokevirtual 81, 3) := by decide +kernel
theorem dX9_meetsAll_15 : decode cX9_meetsAll 15 = .ok (.ifCond .eq 11, 3) := by decide +kernel
theorem dX9_meetsAll_18 : decode cX9_meetsAll 18 = .ok (.iload_n 3, 1) := by decide +kernel
theorem dX9_meetsAll_19 : decode cX9_meetsAll 19 = .ok (.iload_n 2, 1) := by decide +kernel
theorem dX9_meetsAll_20 : decode cX9_meetsAll 20 = .ok (.iand, 1) := by decide +kernel
theorem dX9_meetsAll_21 : decode cX9_meetsAll 21 = .ok (.ifCond .ne 5, 3) := by decide +kernel
theorem dX9_meetsAll_24 : decode cX9_meetsAll 24 = .ok (.iconst 0, 1) := by decide +kernel
theorem dX9_meetsAll_25 : decode cX9_meetsAll 25 = .ok (.ireturn, 1) := by decide +kernel
theorem dX9_meetsAll_26 : decode cX9_meetsAll 26 = .ok (.iinc 3 1, 3) := by decide +kernel
theorem dX9_meetsAll_29 : decode cX9_meetsAll 29 = .ok (.goto (-27), 3) := by decide +kernel
theorem dX9_meetsAll_32 : decode cX9_meetsAll 32 = .ok (.iconst 1, 1) := by decide +kernel
theorem dX9_meetsAll_33 : decode cX9_meetsAll 33 = .ok (.ireturn, 1) := by decide +kernel
theorem dX9_laysMeeting_0 : decode cX9_laysMeeting 0 = .ok (.iconst 0, 1) := by decide +kernel
theorem dX9_laysMeeting_1 : decode cX9_laysMeeting 1 = .ok (.istore_n 2, 1) := by decide +kernel
theorem dX9_laysMeeting_2 : decode cX9_laysMeeting 2 = .ok (.iload_n 2, 1) := by decide +kernel
theorem dX9_laysMeeting_3 : decode cX9_laysMeeting 3 = .ok (.iconst 1, 1) := by decide +kernel
theorem dX9_laysMeeting_4 : decode cX9_laysMeeting 4 = .ok (.aload_n 0, 1) := by decide +kernel
theorem dX9_laysMeeting_5 : decode cX9_laysMeeting 5 = .ok (.iload_n 1, 1) := by decide +kernel
theorem dX9_laysMeeting_6 : decode cX9_laysMeeting 6 = .ok (.invokevirtual 78, 3) := by decide +kernel
theorem dX9_laysMeeting_9 : decode cX9_laysMeeting 9 = .ok (.ishl, 1) := by decide +kernel
theorem dX9_laysMeeting_10 : decode cX9_laysMeeting 10 = .ok (.if_icmp .ge 75, 3) := by decide +kernel
theorem dX9_laysMeeting_13 : decode cX9_laysMeeting 13 = .ok (.aload_n 0, 1) := by decide +kernel
theorem dX9_laysMeeting_14 : decode cX9_laysMeeting 14 = .ok (.iload_n 1, 1) := by decide +kernel
theorem dX9_laysMeeting_15 : decode cX9_laysMeeting 15 = .ok (.iload_n 2, 1) := by decide +kernel
theorem dX9_laysMeeting_16 : decode cX9_laysMeeting 16 = .ok (.invokevirtual 252, 3) := by decide +kernel
theorem dX9_laysMeeting_19 : decode cX9_laysMeeting 19 = .ok (.istore_n 3, 1) := by decide +kernel
theorem dX9_laysMeeting_20 : decode cX9_laysMeeting 20 = .ok (.iconst 0, 1) := by decide +kernel
theorem dX9_laysMeeting_21 : decode cX9_laysMeeting 21 = .ok (.istore 4, 2) := by decide +kernel
theorem dX9_laysMeeting_23 : decode cX9_laysMeeting 23 = .ok (.iload 4, 2) := by decide +kernel
theorem dX9_laysMeeting_25 : decode cX9_laysMeeting 25 = .ok (.aload_n 0, 1) := by decide +kernel
theorem dX9_laysMeeting_26 : decode cX9_laysMeeting 26 = .ok (.iload_n 1, 1) := by decide +kernel
theorem dX9_laysMeeting_27 : decode cX9_laysMeeting 27 = .ok (.invokevirtual 78, 3) := by decide +kernel
theorem dX9_laysMeeting_30 : decode cX9_laysMeeting 30 = .ok (.if_icmp .ge 42, 3) := by decide +kernel
theorem dX9_laysMeeting_33 : decode cX9_laysMeeting 33 = .ok (.iload_n 3, 1) := by decide +kernel
theorem dX9_laysMeeting_34 : decode cX9_laysMeeting 34 = .ok (.ifCond .eq 38, 3) := by decide +kernel
theorem dX9_laysMeeting_37 : decode cX9_laysMeeting 37 = .ok (.iload_n 2, 1) := by decide +kernel
theorem dX9_laysMeeting_38 : decode cX9_laysMeeting 38 = .ok (.iload 4, 2) := by decide +kernel
theorem dX9_laysMeeting_40 : decode cX9_laysMeeting 40 = .ok (.invokestatic 169, 3) := by decide +kernel
theorem dX9_laysMeeting_43 : decode cX9_laysMeeting 43 = .ok (.ifCond .eq 17, 3) := by decide +kernel
theorem dX9_laysMeeting_46 : decode cX9_laysMeeting 46 = .ok (.aload_n 0, 1) := by decide +kernel
theorem dX9_laysMeeting_47 : decode cX9_laysMeeting 47 = .ok (.iload_n 1, 1) := by decide +kernel
theorem dX9_laysMeeting_48 : decode cX9_laysMeeting 48 = .ok (.iload_n 2, 1) := by decide +kernel
theorem dX9_laysMeeting_49 : decode cX9_laysMeeting 49 = .ok (.iconst 1, 1) := by decide +kernel
theorem dX9_laysMeeting_50 : decode cX9_laysMeeting 50 = .ok (.iload 4, 2) := by decide +kernel
theorem dX9_laysMeeting_52 : decode cX9_laysMeeting 52 = .ok (.ishl, 1) := by decide +kernel
theorem dX9_laysMeeting_53 : decode cX9_laysMeeting 53 = .ok (.ixor, 1) := by decide +kernel
theorem dX9_laysMeeting_54 : decode cX9_laysMeeting 54 = .ok (.invokevirtual 252, 3) := by decide +kernel
theorem dX9_laysMeeting_57 : decode cX9_laysMeeting 57 = .ok (.ifCond .ne 7, 3) := by decide +kernel
theorem dX9_laysMeeting_60 : decode cX9_laysMeeting 60 = .ok (.iconst 1, 1) := by decide +kernel
theorem dX9_laysMeeting_61 : decode cX9_laysMeeting 61 = .ok (.goto 4, 3) := by decide +kernel
theorem dX9_laysMeeting_64 : decode cX9_laysMeeting 64 = .ok (.iconst 0, 1) := by decide +kernel
theorem dX9_laysMeeting_65 : decode cX9_laysMeeting 65 = .ok (.istore_n 3, 1) := by decide +kernel
theorem dX9_laysMeeting_66 : decode cX9_laysMeeting 66 = .ok (.iinc 4 1, 3) := by decide +kernel
theorem dX9_laysMeeting_69 : decode cX9_laysMeeting 69 = .ok (.goto (-46), 3) := by decide +kernel
theorem dX9_laysMeeting_72 : decode cX9_laysMeeting 72 = .ok (.aload_n 0, 1) := by decide +kernel
theorem dX9_laysMeeting_73 : decode cX9_laysMeeting 73 = .ok (.getfield 13, 3) := by decide +kernel
theorem dX9_laysMeeting_76 : decode cX9_laysMeeting 76 = .ok (.iload_n 2, 1) := by decide +kernel
theorem dX9_laysMeeting_77 : decode cX9_laysMeeting 77 = .ok (.iload_n 3, 1) := by decide +kernel
theorem dX9_laysMeeting_78 : decode cX9_laysMeeting 78 = .ok (.bastore, 1) := by decide +kernel
theorem dX9_laysMeeting_79 : decode cX9_laysMeeting 79 = .ok (.iinc 2 1, 3) := by decide +kernel
theorem dX9_laysMeeting_82 : decode cX9_laysMeeting 82 = .ok (.goto (-80), 3) := by decide +kernel
theorem dX9_laysMeeting_85 : decode cX9_laysMeeting 85 = .ok (.return_, 1) := by decide +kernel
theorem dX9_makes_0 : decode cX9_makes 0 = .ok (.aload_n 0, 1) := by decide +kernel
theorem dX9_makes_1 : decode cX9_makes 1 = .ok (.iload_n 1, 1) := by decide +kernel
theorem dX9_makes_2 : decode cX9_makes 2 = .ok (.invokevirtual 75, 3) := by decide +kernel
theorem dX9_makes_5 : decode cX9_makes 5 = .ok (.ifCond .eq 22, 3) := by decide +kernel
theorem dX9_makes_8 : decode cX9_makes 8 = .ok (.iload_n 2, 1) := by decide +kernel
theorem dX9_makes_9 : decode cX9_makes 9 = .ok (.i2l, 1) := by decide +kernel
theorem dX9_makes_10 : decode cX9_makes 10 = .ok (.lconst 0, 1) := by decide +kernel
theorem dX9_makes_11 : decode cX9_makes 11 = .ok (.ldc2_w 255, 3) := by decide +kernel
theorem dX9_makes_14 : decode cX9_makes 14 = .ok (.invokestatic 63, 3) := by decide +kernel
theorem dX9_makes_17 : decode cX9_makes 17 = .ok (.ifCond .eq 10, 3) := by decide +kernel
theorem dX9_makes_20 : decode cX9_makes 20 = .ok (.iload_n 3, 1) := by decide +kernel
theorem dX9_makes_21 : decode cX9_makes 21 = .ok (.invokestatic 67, 3) := by decide +kernel
theorem dX9_makes_24 : decode cX9_makes 24 = .ok (.ifCond .ne 6, 3) := by decide +kernel
theorem dX9_makes_27 : decode cX9_makes 27 = .ok (.bipush (-2), 2) := by decide +kernel
theorem dX9_makes_29 : decode cX9_makes 29 = .ok (.ireturn, 1) := by decide +kernel
theorem dX9_makes_30 : decode cX9_makes 30 = .ok (.aload_n 0, 1) := by decide +kernel
theorem dX9_makes_31 : decode cX9_makes 31 = .ok (.aload_n 0, 1) := by decide +kernel
theorem dX9_makes_32 : decode cX9_makes 32 = .ok (.iload_n 1, 1) := by decide +kernel
theorem dX9_makes_33 : decode cX9_makes 33 = .ok (.invokevirtual 78, 3) := by decide +kernel
theorem dX9_makes_36 : decode cX9_makes 36 = .ok (.invokevirtual 176, 3) := by decide +kernel
theorem dX9_makes_39 : decode cX9_makes 39 = .ok (.iload_n 2, 1) := by decide +kernel
theorem dX9_makes_40 : decode cX9_makes 40 = .ok (.iconst 2, 1) := by decide +kernel
theorem dX9_makes_41 : decode cX9_makes 41 = .ok (.if_icmp .ge 21, 3) := by decide +kernel
theorem dX9_makes_44 : decode cX9_makes 44 = .ok (.aload_n 0, 1) := by decide +kernel
theorem dX9_makes_45 : decode cX9_makes 45 = .ok (.iload_n 1, 1) := by decide +kernel
theorem dX9_makes_46 : decode cX9_makes 46 = .ok (.iload_n 2, 1) := by decide +kernel
theorem dX9_makes_47 : decode cX9_makes 47 = .ok (.iconst 1, 1) := by decide +kernel
theorem dX9_makes_48 : decode cX9_makes 48 = .ok (.if_icmp .ne 7, 3) := by decide +kernel
theorem dX9_makes_51 : decode cX9_makes 51 = .ok (.iconst 1, 1) := by decide +kernel
theorem dX9_makes_52 : decode cX9_makes 52 = .ok (.goto 4, 3) := by decide +kernel
theorem dX9_makes_55 : decode cX9_makes 55 = .ok (.iconst 0, 1) := by decide +kernel
theorem dX9_makes_56 : decode cX9_makes 56 = .ok (.invokevirtual 257, 3) := by decide +kernel
theorem dX9_makes_59 : decode cX9_makes 59 = .ok (.goto 92, 3) := by decide +kernel
theorem dX9_makes_62 : decode cX9_makes 62 = .ok (.iload_n 2, 1) := by decide +kernel
theorem dX9_makes_63 : decode cX9_makes 63 = .ok (.iconst 4, 1) := by decide +kernel
theorem dX9_makes_64 : decode cX9_makes 64 = .ok (.if_icmp .ge 21, 3) := by decide +kernel
theorem dX9_makes_67 : decode cX9_makes 67 = .ok (.aload_n 0, 1) := by decide +kernel
theorem dX9_makes_68 : decode cX9_makes 68 = .ok (.iload_n 1, 1) := by decide +kernel
theorem dX9_makes_69 : decode cX9_makes 69 = .ok (.iload_n 2, 1) := by decide +kernel
theorem dX9_makes_70 : decode cX9_makes 70 = .ok (.iconst 3, 1) := by decide +kernel
theorem dX9_makes_71 : decode cX9_makes 71 = .ok (.if_icmp .ne 7, 3) := by decide +kernel
theorem dX9_makes_74 : decode cX9_makes 74 = .ok (.iconst 1, 1) := by decide +kernel
theorem dX9_makes_75 : decode cX9_makes 75 = .ok (.goto 4, 3) := by decide +kernel
theorem dX9_makes_78 : decode cX9_makes 78 = .ok (.iconst 0, 1) := by decide +kernel
theorem dX9_makes_79 : decode cX9_makes 79 = .ok (.invokevirtual 261, 3) := by decide +kernel
theorem dX9_makes_82 : decode cX9_makes 82 = .ok (.goto 69, 3) := by decide +kernel
theorem dX9_makes_85 : decode cX9_makes 85 = .ok (.iload_n 2, 1) := by decide +kernel
theorem dX9_makes_86 : decode cX9_makes 86 = .ok (.iconst 5, 1) := by decide +kernel
theorem dX9_makes_87 : decode cX9_makes 87 = .ok (.if_icmp .eq 9, 3) := by decide +kernel
theorem dX9_makes_90 : decode cX9_makes 90 = .ok (.iload_n 2, 1) := by decide +kernel
theorem dX9_makes_91 : decode cX9_makes 91 = .ok (.bipush 6, 2) := by decide +kernel
theorem dX9_makes_93 : decode cX9_makes 93 = .ok (.if_icmp .ne 22, 3) := by decide +kernel
theorem dX9_makes_96 : decode cX9_makes 96 = .ok (.aload_n 0, 1) := by decide +kernel
theorem dX9_makes_97 : decode cX9_makes 97 = .ok (.iload_n 1, 1) := by decide +kernel
theorem dX9_makes_98 : decode cX9_makes 98 = .ok (.iload_n 2, 1) := by decide +kernel
theorem dX9_makes_99 : decode cX9_makes 99 = .ok (.bipush 6, 2) := by decide +kernel
theorem dX9_makes_101 : decode cX9_makes 101 = .ok (.if_icmp .ne 7, 3) := by decide +kernel
theorem dX9_makes_104 : decode cX9_makes 104 = .ok (.iconst 1, 1) := by decide +kernel
theorem dX9_makes_105 : decode cX9_makes 105 = .ok (.goto 4, 3) := by decide +kernel
theorem dX9_makes_108 : decode cX9_makes 108 = .ok (.iconst 0, 1) := by decide +kernel
theorem dX9_makes_109 : decode cX9_makes 109 = .ok (.invokevirtual 264, 3) := by decide +kernel
theorem dX9_makes_112 : decode cX9_makes 112 = .ok (.goto 39, 3) := by decide +kernel
theorem dX9_makes_115 : decode cX9_makes 115 = .ok (.iload_n 2, 1) := by decide +kernel
theorem dX9_makes_116 : decode cX9_makes 116 = .ok (.bipush 9, 2) := by decide +kernel
theorem dX9_makes_118 : decode cX9_makes 118 = .ok (.if_icmp .ne 11, 3) := by decide +kernel
theorem dX9_makes_121 : decode cX9_makes 121 = .ok (.aload_n 0, 1) := by decide +kernel
theorem dX9_makes_122 : decode cX9_makes 122 = .ok (.iload_n 1, 1) := by decide +kernel
theorem dX9_makes_123 : decode cX9_makes 123 = .ok (.invokevirtual 267, 3) := by decide +kernel
theorem dX9_makes_126 : decode cX9_makes 126 = .ok (.goto 25, 3) := by decide +kernel
theorem dX9_makes_129 : decode cX9_makes 129 = .ok (.iload_n 2, 1) := by decide +kernel
theorem dX9_makes_130 : decode cX9_makes 130 = .ok (.bipush 6, 2) := by decide +kernel
theorem dX9_makes_132 : decode cX9_makes 132 = .ok (.if_icmp .le 19, 3) := by decide +kernel
theorem dX9_makes_135 : decode cX9_makes 135 = .ok (.aload_n 0, 1) := by decide +kernel
theorem dX9_makes_136 : decode cX9_makes 136 = .ok (.iload_n 1, 1) := by decide +kernel
theorem dX9_makes_137 : decode cX9_makes 137 = .ok (.iload_n 2, 1) := by decide +kernel
theorem dX9_makes_138 : decode cX9_makes 138 = .ok (.bipush 8, 2) := by decide +kernel
theorem dX9_makes_140 : decode cX9_makes 140 = .ok (.if_icmp .ne 7, 3) := by decide +kernel
theorem dX9_makes_143 : decode cX9_makes 143 = .ok (.iconst 1, 1) := by decide +kernel
theorem dX9_makes_144 : decode cX9_makes 144 = .ok (.goto 4, 3) := by decide +kernel
theorem dX9_makes_147 : decode cX9_makes 147 = .ok (.iconst 0, 1) := by decide +kernel
theorem dX9_makes_148 : decode cX9_makes 148 = .ok (.invokevirtual 270, 3) := by decide +kernel
theorem dX9_makes_151 : decode cX9_makes 151 = .ok (.iconst 1, 1) := by decide +kernel
theorem dX9_makes_152 : decode cX9_makes 152 = .ok (.aload_n 0, 1) := by decide +kernel
theorem dX9_makes_153 : decode cX9_makes 153 = .ok (.iload_n 1, 1) := by decide +kernel
theorem dX9_makes_154 : decode cX9_makes 154 = .ok (.invokevirtual 78, 3) := by decide +kernel
theorem dX9_makes_157 : decode cX9_makes 157 = .ok (.ishl, 1) := by decide +kernel
theorem dX9_makes_158 : decode cX9_makes 158 = .ok (.iconst 1, 1) := by decide +kernel
theorem dX9_makes_159 : decode cX9_makes 159 = .ok (.isub, 1) := by decide +kernel
theorem dX9_makes_160 : decode cX9_makes 160 = .ok (.istore 4, 2) := by decide +kernel
theorem dX9_makes_162 : decode cX9_makes 162 = .ok (.iconst 0, 1) := by decide +kernel
theorem dX9_makes_163 : decode cX9_makes 163 = .ok (.istore 5, 2) := by decide +kernel
theorem dX9_makes_165 : decode cX9_makes 165 = .ok (.iload 5, 2) := by decide +kernel
theorem dX9_makes_167 : decode cX9_makes 167 = .ok (.iload 4, 2) := by decide +kernel
theorem dX9_makes_169 : decode cX9_makes 169 = .ok (.if_icmp .gt 33, 3) := by decide +kernel
theorem dX9_makes_172 : decode cX9_makes 172 = .ok (.iload_n 2, 1) := by decide +kernel
theorem dX9_makes_173 : decode cX9_makes 173 = .ok (.iconst 4, 1) := by decide +kernel
theorem dX9_makes_174 : decode cX9_makes 174 = .ok (.if_icmp .ne 28, 3) := by decide +kernel
theorem dX9_makes_177 : decode cX9_makes 177 = .ok (.aload_n 0, 1) := by decide +kernel
theorem dX9_makes_178 : decode cX9_makes 178 = .ok (.getfield 13, 3) := by decide +kernel
theorem dX9_makes_181 : decode cX9_makes 181 = .ok (.iload 4, 2) := by decide +kernel
theorem dX9_makes_183 : decode cX9_makes 183 = .ok (.iload 5, 2) := by decide +kernel
theorem dX9_makes_185 : decode cX9_makes 185 = .ok (.iconst (-1), 1) := by decide +kernel
theorem dX9_makes_186 : decode cX9_makes 186 = .ok (.ixor, 1) := by decide +kernel
theorem dX9_makes_187 : decode cX9_makes 187 = .ok (.iand, 1) := by decide +kernel
theorem dX9_makes_188 : decode cX9_makes 188 = .ok (.aload_n 0, 1) := by decide +kernel
theorem dX9_makes_189 : decode cX9_makes 189 = .ok (.iload_n 1, 1) := by decide +kernel
theorem dX9_makes_190 : decode cX9_makes 190 = .ok (.iload 5, 2) := by decide +kernel
theorem dX9_makes_192 : decode cX9_makes 192 = .ok (.invokevirtual 81, 3) := by decide +kernel
theorem dX9_makes_195 : decode cX9_makes 195 = .ok (.bastore, 1) := by decide +kernel
theorem dX9_makes_196 : decode cX9_makes 196 = .ok (.iinc 5 1, 3) := by decide +kernel
theorem dX9_makes_199 : decode cX9_makes 199 = .ok (.goto (-34), 3) := by decide +kernel
theorem dX9_makes_202 : decode cX9_makes 202 = .ok (.aload_n 0, 1) := by decide +kernel
theorem dX9_makes_203 : decode cX9_makes 203 = .ok (.iload_n 3, 1) := by decide +kernel
theorem dX9_makes_204 : decode cX9_makes 204 = .ok (.invokevirtual 188, 3) := by decide +kernel
theorem dX9_makes_207 : decode cX9_makes 207 = .ok (.ireturn, 1) := by decide +kernel
theorem dX9_part_0 : decode cX9_part 0 = .ok (.aload_n 0, 1) := by decide +kernel
theorem dX9_part_1 : decode cX9_part 1 = .ok (.iload_n 1, 1) := by decide +kernel
theorem dX9_part_2 : decode cX9_part 2 = .ok (.iload_n 2, 1) := by decide +kernel
theorem dX9_part_3 : decode cX9_part 3 = .ok (.invokevirtual 243, 3) := by decide +kernel
theorem dX9_part_6 : decode cX9_part 6 = .ok (.ifCond .eq 21, 3) := by decide +kernel
theorem dX9_part_9 : decode cX9_part 9 = .ok (.iload_n 3, 1) := by decide +kernel
theorem dX9_part_10 : decode cX9_part 10 = .ok (.i2l, 1) := by decide +kernel
theorem dX9_part_11 : decode cX9_part 11 = .ok (.lconst 0, 1) := by decide +kernel
theorem dX9_part_12 : decode cX9_part 12 = .ok (.lconst 1, 1) := by decide +kernel
theorem dX9_part_13 : decode cX9_part 13 = .ok (.invokestatic 63, 3) := by decide +kernel
theorem dX9_part_16 : decode cX9_part 16 = .ok (.ifCond .eq 11, 3) := by decide +kernel
theorem dX9_part_19 : decode cX9_part 19 = .ok (.iload 4, 2) := by decide +kernel
theorem dX9_part_21 : decode cX9_part 21 = .ok (.invokestatic 67, 3) := by decide +kernel
theorem dX9_part_24 : decode cX9_part 24 = .ok (.ifCond .ne 6, 3) := by decide +kernel
theorem dX9_part_27 : decode cX9_part 27 = .ok (.bipush (-2), 2) := by decide +kernel
theorem dX9_part_29 : decode cX9_part 29 = .ok (.ireturn, 1) := by decide +kernel
theorem dX9_part_30 : decode cX9_part 30 = .ok (.aload_n 0, 1) := by decide +kernel
theorem dX9_part_31 : decode cX9_part 31 = .ok (.aload_n 0, 1) := by decide +kernel
theorem dX9_part_32 : decode cX9_part 32 = .ok (.iload_n 1, 1) := by decide +kernel
theorem dX9_part_33 : decode cX9_part 33 = .ok (.invokevirtual 78, 3) := by decide +kernel
theorem dX9_part_36 : decode cX9_part 36 = .ok (.invokevirtual 176, 3) := by decide +kernel
theorem dX9_part_39 : decode cX9_part 39 = .ok (.iconst 0, 1) := by decide +kernel
theorem dX9_part_40 : decode cX9_part 40 = .ok (.istore 5, 2) := by decide +kernel
theorem dX9_part_42 : decode cX9_part 42 = .ok (.iload 5, 2) := by decide +kernel
theorem dX9_part_44 : decode cX9_part 44 = .ok (.sipush 128, 3) := by decide +kernel
theorem dX9_part_47 : decode cX9_part 47 = .ok (.if_icmp .ge 51, 3) := by decide +kernel
theorem dX9_part_50 : decode cX9_part 50 = .ok (.aload_n 0, 1) := by decide +kernel
theorem dX9_part_51 : decode cX9_part 51 = .ok (.iload_n 1, 1) := by decide +kernel
theorem dX9_part_52 : decode cX9_part 52 = .ok (.iload 5, 2) := by decide +kernel
theorem dX9_part_54 : decode cX9_part 54 = .ok (.invokevirtual 81, 3) := by decide +kernel
theorem dX9_part_57 : decode cX9_part 57 = .ok (.ifCond .eq 35, 3) := by decide +kernel
theorem dX9_part_60 : decode cX9_part 60 = .ok (.iload 5, 2) := by decide +kernel
theorem dX9_part_62 : decode cX9_part 62 = .ok (.iload_n 2, 1) := by decide +kernel
theorem dX9_part_63 : decode cX9_part 63 = .ok (.invokestatic 169, 3) := by decide +kernel
theorem dX9_part_66 : decode cX9_part 66 = .ok (.iload_n 3, 1) := by decide +kernel
theorem dX9_part_67 : decode cX9_part 67 = .ok (.ifCond .ne 7, 3) := by decide +kernel
theorem dX9_part_70 : decode cX9_part 70 = .ok (.iconst 1, 1) := by decide +kernel
theorem dX9_part_71 : decode cX9_part 71 = .ok (.goto 4, 3) := by decide +kernel
theorem dX9_part_74 : decode cX9_part 74 = .ok (.iconst 0, 1) := by decide +kernel
theorem dX9_part_75 : decode cX9_part 75 = .ok (.if_icmp .ne 17, 3) := by decide +kernel
theorem dX9_part_78 : decode cX9_part 78 = .ok (.aload_n 0, 1) := by decide +kernel
theorem dX9_part_79 : decode cX9_part 79 = .ok (.getfield 13, 3) := by decide +kernel
theorem dX9_part_82 : decode cX9_part 82 = .ok (.iload 5, 2) := by decide +kernel
theorem dX9_part_84 : decode cX9_part 84 = .ok (.iconst 1, 1) := by decide +kernel
theorem dX9_part_85 : decode cX9_part 85 = .ok (.iload_n 2, 1) := by decide +kernel
theorem dX9_part_86 : decode cX9_part 86 = .ok (.ishl, 1) := by decide +kernel
theorem dX9_part_87 : decode cX9_part 87 = .ok (.iconst (-1), 1) := by decide +kernel
theorem dX9_part_88 : decode cX9_part 88 = .ok (.ixor, 1) := by decide +kernel
theorem dX9_part_89 : decode cX9_part 89 = .ok (.iand, 1) := by decide +kernel
theorem dX9_part_90 : decode cX9_part 90 = .ok (.iconst 1, 1) := by decide +kernel
theorem dX9_part_91 : decode cX9_part 91 = .ok (.bastore, 1) := by decide +kernel
theorem dX9_part_92 : decode cX9_part 92 = .ok (.iinc 5 1, 3) := by decide +kernel
theorem dX9_part_95 : decode cX9_part 95 = .ok (.goto (-53), 3) := by decide +kernel
theorem dX9_part_98 : decode cX9_part 98 = .ok (.aload_n 0, 1) := by decide +kernel
theorem dX9_part_99 : decode cX9_part 99 = .ok (.iload 4, 2) := by decide +kernel
theorem dX9_part_101 : decode cX9_part 101 = .ok (.invokevirtual 188, 3) := by decide +kernel
theorem dX9_part_104 : decode cX9_part 104 = .ok (.ireturn, 1) := by decide +kernel
theorem dX9_isTwo_0 : decode cX9_isTwo 0 = .ok (.aload_n 0, 1) := by decide +kernel
theorem dX9_isTwo_1 : decode cX9_isTwo 1 = .ok (.iload_n 1, 1) := by decide +kernel
theorem dX9_isTwo_2 : decode cX9_isTwo 2 = .ok (.iload_n 2, 1) := by decide +kernel
theorem dX9_isTwo_3 : decode cX9_isTwo 3 = .ok (.invokevirtual 243, 3) := by decide +kernel
theorem dX9_isTwo_6 : decode cX9_isTwo 6 = .ok (.ifCond .eq 21, 3) := by decide +kernel
theorem dX9_isTwo_9 : decode cX9_isTwo 9 = .ok (.aload_n 0, 1) := by decide +kernel
theorem dX9_isTwo_10 : decode cX9_isTwo 10 = .ok (.iload_n 1, 1) := by decide +kernel
theorem dX9_isTwo_11 : decode cX9_isTwo 11 = .ok (.iload_n 3, 1) := by decide +kernel
theorem dX9_isTwo_12 : decode cX9_isTwo 12 = .ok (.invokevirtual 243, 3) := by decide +kernel
theorem dX9_isTwo_15 : decode cX9_isTwo 15 = .ok (.ifCond .eq 12, 3) := by decide +kernel
theorem dX9_isTwo_18 : decode cX9_isTwo 18 = .ok (.iload_n 2, 1) := by decide +kernel
theorem dX9_isTwo_19 : decode cX9_isTwo 19 = .ok (.iload_n 3, 1) := by decide +kernel
theorem dX9_isTwo_20 : decode cX9_isTwo 20 = .ok (.if_icmp .ge 7, 3) := by decide +kernel
theorem dX9_isTwo_23 : decode cX9_isTwo 23 = .ok (.iconst 1, 1) := by decide +kernel
theorem dX9_isTwo_24 : decode cX9_isTwo 24 = .ok (.goto 4, 3) := by decide +kernel
theorem dX9_isTwo_27 : decode cX9_isTwo 27 = .ok (.iconst 0, 1) := by decide +kernel
theorem dX9_isTwo_28 : decode cX9_isTwo 28 = .ok (.ireturn, 1) := by decide +kernel
theorem dX9_would_0 : decode cX9_would 0 = .ok (.aload_n 0, 1) := by decide +kernel
theorem dX9_would_1 : decode cX9_would 1 = .ok (.iload_n 1, 1) := by decide +kernel
theorem dX9_would_2 : decode cX9_would 2 = .ok (.iload_n 2, 1) := by decide +kernel
theorem dX9_would_3 : decode cX9_would 3 = .ok (.iload_n 3, 1) := by decide +kernel
theorem dX9_would_4 : decode cX9_would 4 = .ok (.invokevirtual 273, 3) := by decide +kernel
theorem dX9_would_7 : decode cX9_would 7 = .ok (.ifCond .eq 13, 3) := by decide +kernel
theorem dX9_would_10 : decode cX9_would 10 = .ok (.aload_n 0, 1) := by decide +kernel
theorem dX9_would_11 : decode cX9_would 11 = .ok (.iload_n 1, 1) := by decide +kernel
theorem dX9_would_12 : decode cX9_would 12 = .ok (.iload_n 2, 1) := by decide +kernel
theorem dX9_would_13 : decode cX9_would 13 = .ok (.iload_n 3, 1) := by decide +kernel
theorem dX9_would_14 : decode cX9_would 14 = .ok (.invokevirtual 219, 3) := by decide +kernel
theorem dX9_would_17 : decode cX9_would 17 = .ok (.goto 5, 3) := by decide +kernel
theorem dX9_would_20 : decode cX9_would 20 = .ok (.bipush (-2), 2) := by decide +kernel
theorem dX9_would_22 : decode cX9_would 22 = .ok (.ireturn, 1) := by decide +kernel
theorem dX9_shiftsFresh_0 : decode cX9_shiftsFresh 0 = .ok (.iconst 0, 1) := by decide +kernel
theorem dX9_shiftsFresh_1 : decode cX9_shiftsFresh 1 = .ok (.istore_n 3, 1) := by decide +kernel
theorem dX9_shiftsFresh_2 : decode cX9_shiftsFresh 2 = .ok (.iconst 0, 1) := by decide +kernel
theorem dX9_shiftsFresh_3 : decode cX9_shiftsFresh 3 = .ok (.istore 4, 2) := by decide +kernel
theorem dX9_shiftsFresh_5 : decode cX9_shiftsFresh 5 = .ok (.iload 4, 2) := by decide +kernel
theorem dX9_shiftsFresh_7 : decode cX9_shiftsFresh 7 = .ok (.sipush 128, 3) := by decide +kernel
theorem dX9_shiftsFresh_10 : decode cX9_shiftsFresh 10 = .ok (.if_icmp .ge 81, 3) := by decide +kernel
theorem dX9_shiftsFresh_13 : decode cX9_shiftsFresh 13 = .ok (.iload 4, 2) := by decide +kernel
theorem dX9_shiftsFresh_15 : decode cX9_shiftsFresh 15 = .ok (.iconst 1, 1) := by decide +kernel
theorem dX9_shiftsFresh_16 : decode cX9_shiftsFresh 16 = .ok (.iload_n 2, 1) := by decide +kernel
theorem dX9_shiftsFresh_17 : decode cX9_shiftsFresh 17 = .ok (.ishl, 1) := by decide +kernel
theorem dX9_shiftsFresh_18 : decode cX9_shiftsFresh 18 = .ok (.ixor, 1) := by decide +kernel
theorem dX9_shiftsFresh_19 : decode cX9_shiftsFresh 19 = .ok (.iconst 1, 1) := by decide +kernel
theorem dX9_shiftsFresh_20 : decode cX9_shiftsFresh 20 = .ok (.iload_n 1, 1) := by decide +kernel
theorem dX9_shiftsFresh_21 : decode cX9_shiftsFresh 21 = .ok (.ishl, 1) := by decide +kernel
theorem dX9_shiftsFresh_22 : decode cX9_shiftsFresh 22 = .ok (.ixor, 1) := by decide +kernel
theorem dX9_shiftsFresh_23 : decode cX9_shiftsFresh 23 = .ok (.istore 5, 2) := by decide +kernel
theorem dX9_shiftsFresh_25 : decode cX9_shiftsFresh 25 = .ok (.aload_n 0, 1) := by decide +kernel
theorem dX9_shiftsFresh_26 : decode cX9_shiftsFresh 26 = .ok (.getfield 13, 3) := by decide +kernel
theorem dX9_shiftsFresh_29 : decode cX9_shiftsFresh 29 = .ok (.iload 4, 2) := by decide +kernel
theorem dX9_shiftsFresh_31 : decode cX9_shiftsFresh 31 = .ok (.baload, 1) := by decide +kernel
theorem dX9_shiftsFresh_32 : decode cX9_shiftsFresh 32 = .ok (.ifCond .eq 53, 3) := by decide +kernel
theorem dX9_shiftsFresh_35 : decode cX9_shiftsFresh 35 = .ok (.iload 4, 2) := by decide +kernel
theorem dX9_shiftsFresh_37 : decode cX9_shiftsFresh 37 = .ok (.iload_n 2, 1) := by decide +kernel
theorem dX9_shiftsFresh_38 : decode cX9_shiftsFresh 38 = .ok (.invokestatic 169, 3) := by decide +kernel
theorem dX9_shiftsFresh_41 : decode cX9_shiftsFresh 41 = .ok (.ifCond .eq 44, 3) := by decide +kernel
theorem dX9_shiftsFresh_44 : decode cX9_shiftsFresh 44 = .ok (.iload 4, 2) := by decide +kernel
theorem dX9_shiftsFresh_46 : decode cX9_shiftsFresh 46 = .ok (.iload_n 1, 1) := by decide +kernel
theorem dX9_shiftsFresh_47 : decode cX9_shiftsFresh 47 = .ok (.invokestatic 169, 3) := by decide +kernel
theorem dX9_shiftsFresh_50 : decode cX9_shiftsFresh 50 = .ok (.ifCond .ne 35, 3) := by decide +kernel
theorem dX9_shiftsFresh_53 : decode cX9_shiftsFresh 53 = .ok (.aload_n 0, 1) := by decide +kernel
theorem dX9_shiftsFresh_54 : decode cX9_shiftsFresh 54 = .ok (.getfield 13, 3) := by decide +kernel
theorem dX9_shiftsFresh_57 : decode cX9_shiftsFresh 57 = .ok (.iload 5, 2) := by decide +kernel
theorem dX9_shiftsFresh_59 : decode cX9_shiftsFresh 59 = .ok (.baload, 1) := by decide +kernel
theorem dX9_shiftsFresh_60 : decode cX9_shiftsFresh 60 = .ok (.ifCond .eq 6, 3) := by decide +kernel
theorem dX9_shiftsFresh_63 : decode cX9_shiftsFresh 63 = .ok (.goto 22, 3) := by decide +kernel
theorem dX9_shiftsFresh_66 : decode cX9_shiftsFresh 66 = .ok (.aload_n 0, 1) := by decide +kernel
theorem dX9_shiftsFresh_67 : decode cX9_shiftsFresh 67 = .ok (.getfield 13, 3) := by decide +kernel
theorem dX9_shiftsFresh_70 : decode cX9_shiftsFresh 70 = .ok (.iload 4, 2) := by decide +kernel
theorem dX9_shiftsFresh_72 : decode cX9_shiftsFresh 72 = .ok (.iconst 0, 1) := by decide +kernel
theorem dX9_shiftsFresh_73 : decode cX9_shiftsFresh 73 = .ok (.bastore, 1) := by decide +kernel
theorem dX9_shiftsFresh_74 : decode cX9_shiftsFresh 74 = .ok (.aload_n 0, 1) := by decide +kernel
theorem dX9_shiftsFresh_75 : decode cX9_shiftsFresh 75 = .ok (.getfield 13, 3) := by decide +kernel
theorem dX9_shiftsFresh_78 : decode cX9_shiftsFresh 78 = .ok (.iload 5, 2) := by decide +kernel
theorem dX9_shiftsFresh_80 : decode cX9_shiftsFresh 80 = .ok (.iconst 1, 1) := by decide +kernel
theorem dX9_shiftsFresh_81 : decode cX9_shiftsFresh 81 = .ok (.bastore, 1) := by decide +kernel
theorem dX9_shiftsFresh_82 : decode cX9_shiftsFresh 82 = .ok (.iinc 3 1, 3) := by decide +kernel
theorem dX9_shiftsFresh_85 : decode cX9_shiftsFresh 85 = .ok (.iinc 4 1, 3) := by decide +kernel
theorem dX9_shiftsFresh_88 : decode cX9_shiftsFresh 88 = .ok (.goto (-83), 3) := by decide +kernel
theorem dX9_shiftsFresh_91 : decode cX9_shiftsFresh 91 = .ok (.iload_n 3, 1) := by decide +kernel
theorem dX9_shiftsFresh_92 : decode cX9_shiftsFresh 92 = .ok (.ireturn, 1) := by decide +kernel
theorem dX9_shift_0 : decode cX9_shift 0 = .ok (.aload_n 0, 1) := by decide +kernel
theorem dX9_shift_1 : decode cX9_shift 1 = .ok (.iload_n 1, 1) := by decide +kernel
theorem dX9_shift_2 : decode cX9_shift 2 = .ok (.iload_n 2, 1) := by decide +kernel
theorem dX9_shift_3 : decode cX9_shift 3 = .ok (.iload_n 3, 1) := by decide +kernel
theorem dX9_shift_4 : decode cX9_shift 4 = .ok (.invokevirtual 273, 3) := by decide +kernel
theorem dX9_shift_7 : decode cX9_shift 7 = .ok (.ifCond .ne 6, 3) := by decide +kernel
theorem dX9_shift_10 : decode cX9_shift 10 = .ok (.bipush (-2), 2) := by decide +kernel
theorem dX9_shift_12 : decode cX9_shift 12 = .ok (.ireturn, 1) := by decide +kernel
theorem dX9_shift_13 : decode cX9_shift 13 = .ok (.aload_n 0, 1) := by decide +kernel
theorem dX9_shift_14 : decode cX9_shift 14 = .ok (.iload_n 1, 1) := by decide +kernel
theorem dX9_shift_15 : decode cX9_shift 15 = .ok (.invokevirtual 249, 3) := by decide +kernel
theorem dX9_shift_18 : decode cX9_shift 18 = .ok (.aload_n 0, 1) := by decide +kernel
theorem dX9_shift_19 : decode cX9_shift 19 = .ok (.iload_n 2, 1) := by decide +kernel
theorem dX9_shift_20 : decode cX9_shift 20 = .ok (.iload_n 3, 1) := by decide +kernel
theorem dX9_shift_21 : decode cX9_shift 21 = .ok (.invokevirtual 276, 3) := by decide +kernel
theorem dX9_shift_24 : decode cX9_shift 24 = .ok (.istore 4, 2) := by decide +kernel
theorem dX9_shift_26 : decode cX9_shift 26 = .ok (.aload_n 0, 1) := by decide +kernel
theorem dX9_shift_27 : decode cX9_shift 27 = .ok (.iload_n 1, 1) := by decide +kernel
theorem dX9_shift_28 : decode cX9_shift 28 = .ok (.invokevirtual 188, 3) := by decide +kernel
theorem dX9_shift_31 : decode cX9_shift 31 = .ok (.istore 5, 2) := by decide +kernel
theorem dX9_shift_33 : decode cX9_shift 33 = .ok (.iload 4, 2) := by decide +kernel
theorem dX9_shift_35 : decode cX9_shift 35 = .ok (.ireturn, 1) := by decide +kernel
theorem dX9_settles_0 : decode cX9_settles 0 = .ok (.aload_n 0, 1) := by decide +kernel
theorem dX9_settles_1 : decode cX9_settles 1 = .ok (.iload_n 1, 1) := by decide +kernel
theorem dX9_settles_2 : decode cX9_settles 2 = .ok (.invokevirtual 75, 3) := by decide +kernel
theorem dX9_settles_5 : decode cX9_settles 5 = .ok (.ifCond .ne 6, 3) := by decide +kernel
theorem dX9_settles_8 : decode cX9_settles 8 = .ok (.bipush (-2), 2) := by decide +kernel
theorem dX9_settles_10 : decode cX9_settles 10 = .ok (.ireturn, 1) := by decide +kernel
theorem dX9_settles_11 : decode cX9_settles 11 = .ok (.aload_n 0, 1) := by decide +kernel
theorem dX9_settles_12 : decode cX9_settles 12 = .ok (.iload_n 1, 1) := by decide +kernel
theorem dX9_settles_13 : decode cX9_settles 13 = .ok (.invokevirtual 249, 3) := by decide +kernel
theorem dX9_settles_16 : decode cX9_settles 16 = .ok (.iconst 0, 1) := by decide +kernel
theorem dX9_settles_17 : decode cX9_settles 17 = .ok (.istore_n 2, 1) := by decide +kernel
theorem dX9_settles_18 : decode cX9_settles 18 = .ok (.iconst (-1), 1) := by decide +kernel
theorem dX9_settles_19 : decode cX9_settles 19 = .ok (.istore_n 3, 1) := by decide +kernel
theorem dX9_settles_20 : decode cX9_settles 20 = .ok (.iload_n 2, 1) := by decide +kernel
theorem dX9_settles_21 : decode cX9_settles 21 = .ok (.iload_n 3, 1) := by decide +kernel
theorem dX9_settles_22 : decode cX9_settles 22 = .ok (.if_icmp .eq 66, 3) := by decide +kernel
theorem dX9_settles_25 : decode cX9_settles 25 = .ok (.iload_n 2, 1) := by decide +kernel
theorem dX9_settles_26 : decode cX9_settles 26 = .ok (.istore_n 3, 1) := by decide +kernel
theorem dX9_settles_27 : decode cX9_settles 27 = .ok (.iconst 0, 1) := by decide +kernel
theorem dX9_settles_28 : decode cX9_settles 28 = .ok (.istore 4, 2) := by decide +kernel
theorem dX9_settles_30 : decode cX9_settles 30 = .ok (.iload 4, 2) := by decide +kernel
theorem dX9_settles_32 : decode cX9_settles 32 = .ok (.aload_n 0, 1) := by decide +kernel
theorem dX9_settles_33 : decode cX9_settles 33 = .ok (.getfield 88, 3) := by decide +kernel
theorem dX9_settles_36 : decode cX9_settles 36 = .ok (.if_icmp .ge 49, 3) := by decide +kernel
theorem dX9_settles_39 : decode cX9_settles 39 = .ok (.iload 4, 2) := by decide +kernel
theorem dX9_settles_41 : decode cX9_settles 41 = .ok (.iconst 1, 1) := by decide +kernel
theorem dX9_settles_42 : decode cX9_settles 42 = .ok (.iadd, 1) := by decide +kernel
theorem dX9_settles_43 : decode cX9_settles 43 = .ok (.istore 5, 2) := by decide +kernel
theorem dX9_settles_45 : decode cX9_settles 45 = .ok (.iload 5, 2) := by decide +kernel
theorem dX9_settles_47 : decode cX9_settles 47 = .ok (.aload_n 0, 1) := by decide +kernel
theorem dX9_settles_48 : decode cX9_settles 48 = .ok (.getfield 88, 3) := by decide +kernel
theorem dX9_settles_51 : decode cX9_settles 51 = .ok (.if_icmp .ge 28, 3) := by decide +kernel
theorem dX9_settles_54 : decode cX9_settles 54 = .ok (.iload_n 2, 1) := by decide +kernel
theorem dX9_settles_55 : decode cX9_settles 55 = .ok (.aload_n 0, 1) := by decide +kernel
theorem dX9_settles_56 : decode cX9_settles 56 = .ok (.iload 4, 2) := by decide +kernel
theorem dX9_settles_58 : decode cX9_settles 58 = .ok (.iload 5, 2) := by decide +kernel
theorem dX9_settles_60 : decode cX9_settles 60 = .ok (.invokevirtual 276, 3) := by decide +kernel
theorem dX9_settles_63 : decode cX9_settles 63 = .ok (.ifCond .le 7, 3) := by decide +kernel
theorem dX9_settles_66 : decode cX9_settles 66 = .ok (.iconst 1, 1) := by decide +kernel
theorem dX9_settles_67 : decode cX9_settles 67 = .ok (.goto 4, 3) := by decide +kernel
theorem dX9_settles_70 : decode cX9_settles 70 = .ok (.iconst 0, 1) := by decide +kernel
theorem dX9_settles_71 : decode cX9_settles 71 = .ok (.iadd, 1) := by decide +kernel
theorem dX9_settles_72 : decode cX9_settles 72 = .ok (.istore_n 2, 1) := by decide +kernel
theorem dX9_settles_73 : decode cX9_settles 73 = .ok (.iinc 5 1, 3) := by decide +kernel
theorem dX9_settles_76 : decode cX9_settles 76 = .ok (.goto (-31), 3) := by decide +kernel
theorem dX9_settles_79 : decode cX9_settles 79 = .ok (.iinc 4 1, 3) := by decide +kernel
theorem dX9_settles_82 : decode cX9_settles 82 = .ok (.goto (-52), 3) := by decide +kernel
theorem dX9_settles_85 : decode cX9_settles 85 = .ok (.goto (-65), 3) := by decide +kernel
theorem dX9_settles_88 : decode cX9_settles 88 = .ok (.aload_n 0, 1) := by decide +kernel
theorem dX9_settles_89 : decode cX9_settles 89 = .ok (.iload_n 1, 1) := by decide +kernel
theorem dX9_settles_90 : decode cX9_settles 90 = .ok (.invokevirtual 188, 3) := by decide +kernel
theorem dX9_settles_93 : decode cX9_settles 93 = .ok (.istore 4, 2) := by decide +kernel
theorem dX9_settles_95 : decode cX9_settles 95 = .ok (.iload_n 2, 1) := by decide +kernel
theorem dX9_settles_96 : decode cX9_settles 96 = .ok (.ireturn, 1) := by decide +kernel
theorem dX9_chosen_0 : decode cX9_chosen 0 = .ok (.iload_n 1, 1) := by decide +kernel
theorem dX9_chosen_1 : decode cX9_chosen 1 = .ok (.ifCond .lt 8, 3) := by decide +kernel
theorem dX9_chosen_4 : decode cX9_chosen 4 = .ok (.iload_n 1, 1) := by decide +kernel
theorem dX9_chosen_5 : decode cX9_chosen 5 = .ok (.iload_n 0, 1) := by decide +kernel
theorem dX9_chosen_6 : decode cX9_chosen 6 = .ok (.if_icmp .le 5, 3) := by decide +kernel
theorem dX9_chosen_9 : decode cX9_chosen 9 = .ok (.lconst 0, 1) := by decide +kernel
theorem dX9_chosen_10 : decode cX9_chosen 10 = .ok (.lreturn, 1) := by decide +kernel
theorem dX9_chosen_11 : decode cX9_chosen 11 = .ok (.lconst 1, 1) := by decide +kernel
theorem dX9_chosen_12 : decode cX9_chosen 12 = .ok (.lstore_n 2, 1) := by decide +kernel
theorem dX9_chosen_13 : decode cX9_chosen 13 = .ok (.iconst 0, 1) := by decide +kernel
theorem dX9_chosen_14 : decode cX9_chosen 14 = .ok (.istore 4, 2) := by decide +kernel
theorem dX9_chosen_16 : decode cX9_chosen 16 = .ok (.iload 4, 2) := by decide +kernel
theorem dX9_chosen_18 : decode cX9_chosen 18 = .ok (.iload_n 1, 1) := by decide +kernel
theorem dX9_chosen_19 : decode cX9_chosen 19 = .ok (.if_icmp .ge 23, 3) := by decide +kernel
theorem dX9_chosen_22 : decode cX9_chosen 22 = .ok (.lload_n 2, 1) := by decide +kernel
theorem dX9_chosen_23 : decode cX9_chosen 23 = .ok (.iload_n 0, 1) := by decide +kernel
theorem dX9_chosen_24 : decode cX9_chosen 24 = .ok (.iload 4, 2) := by decide +kernel
theorem dX9_chosen_26 : decode cX9_chosen 26 = .ok (.isub, 1) := by decide +kernel
theorem dX9_chosen_27 : decode cX9_chosen 27 = .ok (.i2l, 1) := by decide +kernel
theorem dX9_chosen_28 : decode cX9_chosen 28 = .ok (.lmul, 1) := by decide +kernel
theorem dX9_chosen_29 : decode cX9_chosen 29 = .ok (.iload 4, 2) := by decide +kernel
theorem dX9_chosen_31 : decode cX9_chosen 31 = .ok (.iconst 1, 1) := by decide +kernel
theorem dX9_chosen_32 : decode cX9_chosen 32 = .ok (.iadd, 1) := by decide +kernel
theorem dX9_chosen_33 : decode cX9_chosen 33 = .ok (.i2l, 1) := by decide +kernel
theorem dX9_chosen_34 : decode cX9_chosen 34 = .ok (.ldiv, 1) := by decide +kernel
theorem dX9_chosen_35 : decode cX9_chosen 35 = .ok (.lstore_n 2, 1) := by decide +kernel
theorem dX9_chosen_36 : decode cX9_chosen 36 = .ok (.iinc 4 1, 3) := by decide +kernel
theorem dX9_chosen_39 : decode cX9_chosen 39 = .ok (.goto (-23), 3) := by decide +kernel
theorem dX9_chosen_42 : decode cX9_chosen 42 = .ok (.lload_n 2, 1) := by decide +kernel
theorem dX9_chosen_43 : decode cX9_chosen 43 = .ok (.lreturn, 1) := by decide +kernel
theorem dX9_choose_0 : decode cX9_choose 0 = .ok (.iload_n 1, 1) := by decide +kernel
theorem dX9_choose_1 : decode cX9_choose 1 = .ok (.i2l, 1) := by decide +kernel
theorem dX9_choose_2 : decode cX9_choose 2 = .ok (.lconst 0, 1) := by decide +kernel
theorem dX9_choose_3 : decode cX9_choose 3 = .ok (.ldc2_w 279, 3) := by decide +kernel
theorem dX9_choose_6 : decode cX9_choose 6 = .ok (.invokestatic 63, 3) := by decide +kernel
theorem dX9_choose_9 : decode cX9_choose 9 = .ok (.ifCond .eq 12, 3) := by decide +kernel
theorem dX9_choose_12 : decode cX9_choose 12 = .ok (.iload_n 1, 1) := by decide +kernel
theorem dX9_choose_13 : decode cX9_choose 13 = .ok (.iload_n 2, 1) := by decide +kernel
theorem dX9_choose_14 : decode cX9_choose 14 = .ok (.invokestatic 281, 3) := by decide +kernel
theorem dX9_choose_17 : decode cX9_choose 17 = .ok (.l2i, 1) := by decide +kernel
theorem dX9_choose_18 : decode cX9_choose 18 = .ok (.goto 5, 3) := by decide +kernel
theorem dX9_choose_21 : decode cX9_choose 21 = .ok (.bipush (-2), 2) := by decide +kernel
theorem dX9_choose_23 : decode cX9_choose 23 = .ok (.ireturn, 1) := by decide +kernel
theorem dX9_row_0 : decode cX9_row 0 = .ok (.iload_n 1, 1) := by decide +kernel
theorem dX9_row_1 : decode cX9_row 1 = .ok (.invokestatic 67, 3) := by decide +kernel
theorem dX9_row_4 : decode cX9_row 4 = .ok (.ifCond .eq 41, 3) := by decide +kernel
theorem dX9_row_7 : decode cX9_row 7 = .ok (.iload_n 2, 1) := by decide +kernel
theorem dX9_row_8 : decode cX9_row 8 = .ok (.i2l, 1) := by decide +kernel
theorem dX9_row_9 : decode cX9_row 9 = .ok (.lconst 1, 1) := by decide +kernel
theorem dX9_row_10 : decode cX9_row 10 = .ok (.ldc2_w 174, 3) := by decide +kernel
theorem dX9_row_13 : decode cX9_row 13 = .ok (.invokestatic 63, 3) := by decide +kernel
theorem dX9_row_16 : decode cX9_row 16 = .ok (.ifCond .eq 29, 3) := by decide +kernel
theorem dX9_row_19 : decode cX9_row 19 = .ok (.iload_n 3, 1) := by decide +kernel
theorem dX9_row_20 : decode cX9_row 20 = .ok (.i2l, 1) := by decide +kernel
theorem dX9_row_21 : decode cX9_row 21 = .ok (.lconst 0, 1) := by decide +kernel
theorem dX9_row_22 : decode cX9_row 22 = .ok (.iload_n 2, 1) := by decide +kernel
theorem dX9_row_23 : decode cX9_row 23 = .ok (.i2l, 1) := by decide +kernel
theorem dX9_row_24 : decode cX9_row 24 = .ok (.invokestatic 63, 3) := by decide +kernel
theorem dX9_row_27 : decode cX9_row 27 = .ok (.ifCond .eq 18, 3) := by decide +kernel
theorem dX9_row_30 : decode cX9_row 30 = .ok (.iload 4, 2) := by decide +kernel
theorem dX9_row_32 : decode cX9_row 32 = .ok (.i2l, 1) := by decide +kernel
theorem dX9_row_33 : decode cX9_row 33 = .ok (.lconst 0, 1) := by decide +kernel
theorem dX9_row_34 : decode cX9_row 34 = .ok (.iload_n 2, 1) := by decide +kernel
theorem dX9_row_35 : decode cX9_row 35 = .ok (.iload_n 3, 1) := by decide +kernel
theorem dX9_row_36 : decode cX9_row 36 = .ok (.invokestatic 281, 3) := by decide +kernel
theorem dX9_row_39 : decode cX9_row 39 = .ok (.invokestatic 63, 3) := by decide +kernel
theorem dX9_row_42 : decode cX9_row 42 = .ok (.ifCond .ne 6, 3) := by decide +kernel
theorem dX9_row_45 : decode cX9_row 45 = .ok (.bipush (-2), 2) := by decide +kernel
theorem dX9_row_47 : decode cX9_row 47 = .ok (.ireturn, 1) := by decide +kernel
theorem dX9_row_48 : decode cX9_row 48 = .ok (.aload_n 0, 1) := by decide +kernel
theorem dX9_row_49 : decode cX9_row 49 = .ok (.iload_n 2, 1) := by decide +kernel
theorem dX9_row_50 : decode cX9_row 50 = .ok (.invokevirtual 176, 3) := by decide +kernel
theorem dX9_row_53 : decode cX9_row 53 = .ok (.iconst (-1), 1) := by decide +kernel
theorem dX9_row_54 : decode cX9_row 54 = .ok (.istore 5, 2) := by decide +kernel
theorem dX9_row_56 : decode cX9_row 56 = .ok (.iload 4, 2) := by decide +kernel
theorem dX9_row_58 : decode cX9_row 58 = .ok (.istore 6, 2) := by decide +kernel
theorem dX9_row_60 : decode cX9_row 60 = .ok (.iconst 0, 1) := by decide +kernel
theorem dX9_row_61 : decode cX9_row 61 = .ok (.istore 7, 2) := by decide +kernel
theorem dX9_row_63 : decode cX9_row 63 = .ok (.iload 7, 2) := by decide +kernel
theorem dX9_row_65 : decode cX9_row 65 = .ok (.iconst 1, 1) := by decide +kernel
theorem dX9_row_66 : decode cX9_row 66 = .ok (.iload_n 2, 1) := by decide +kernel
theorem dX9_row_67 : decode cX9_row 67 = .ok (.ishl, 1) := by decide +kernel
theorem dX9_row_68 : decode cX9_row 68 = .ok (.if_icmp .ge 41, 3) := by decide +kernel
theorem dX9_row_71 : decode cX9_row 71 = .ok (.iload 6, 2) := by decide +kernel
theorem dX9_row_73 : decode cX9_row 73 = .ok (.ifCond .le 36, 3) := by decide +kernel
theorem dX9_row_76 : decode cX9_row 76 = .ok (.iload 7, 2) := by decide +kernel
theorem dX9_row_78 : decode cX9_row 78 = .ok (.invokestatic 198, 3) := by decide +kernel
theorem dX9_row_81 : decode cX9_row 81 = .ok (.iload_n 3, 1) := by decide +kernel
theorem dX9_row_82 : decode cX9_row 82 = .ok (.if_icmp .eq 6, 3) := by decide +kernel
theorem dX9_row_85 : decode cX9_row 85 = .ok (.goto 18, 3) := by decide +kernel
theorem dX9_row_88 : decode cX9_row 88 = .ok (.aload_n 0, 1) := by decide +kernel
theorem dX9_row_89 : decode cX9_row 89 = .ok (.getfield 13, 3) := by decide +kernel
theorem dX9_row_92 : decode cX9_row 92 = .ok (.iload 7, 2) := by decide +kernel
theorem dX9_row_94 : decode cX9_row 94 = .ok (.iconst 1, 1) := by decide +kernel
theorem dX9_row_95 : decode cX9_row 95 = .ok (.bastore, 1) := by decide +kernel
theorem dX9_row_96 : decode cX9_row 96 = .ok (.iload 7, 2) := by decide +kernel
theorem dX9_row_98 : decode cX9_row 98 = .ok (.istore 5, 2) := by decide +kernel
theorem dX9_row_100 : decode cX9_row 100 = .ok (.iinc 6 (-1), 3) := by decide +kernel
theorem dX9_row_103 : decode cX9_row 103 = .ok (.iinc 7 1, 3) := by decide +kernel
theorem dX9_row_106 : decode cX9_row 106 = .ok (.goto (-43), 3) := by decide +kernel
theorem dX9_row_109 : decode cX9_row 109 = .ok (.aload_n 0, 1) := by decide +kernel
theorem dX9_row_110 : decode cX9_row 110 = .ok (.iload_n 1, 1) := by decide +kernel
theorem dX9_row_111 : decode cX9_row 111 = .ok (.invokevirtual 188, 3) := by decide +kernel
theorem dX9_row_114 : decode cX9_row 114 = .ok (.istore 7, 2) := by decide +kernel
theorem dX9_row_116 : decode cX9_row 116 = .ok (.iload 5, 2) := by decide +kernel
theorem dX9_row_118 : decode cX9_row 118 = .ok (.ireturn, 1) := by decide +kernel
theorem dX9_all_0 : decode cX9_all 0 = .ok (.iload_n 1, 1) := by decide +kernel
theorem dX9_all_1 : decode cX9_all 1 = .ok (.invokestatic 67, 3) := by decide +kernel
theorem dX9_all_4 : decode cX9_all 4 = .ok (.ifCond .eq 42, 3) := by decide +kernel
theorem dX9_all_7 : decode cX9_all 7 = .ok (.iload_n 2, 1) := by decide +kernel
theorem dX9_all_8 : decode cX9_all 8 = .ok (.i2l, 1) := by decide +kernel
theorem dX9_all_9 : decode cX9_all 9 = .ok (.lconst 1, 1) := by decide +kernel
theorem dX9_all_10 : decode cX9_all 10 = .ok (.ldc2_w 174, 3) := by decide +kernel
theorem dX9_all_13 : decode cX9_all 13 = .ok (.invokestatic 63, 3) := by decide +kernel
theorem dX9_all_16 : decode cX9_all 16 = .ok (.ifCond .eq 30, 3) := by decide +kernel
theorem dX9_all_19 : decode cX9_all 19 = .ok (.iload_n 3, 1) := by decide +kernel
theorem dX9_all_20 : decode cX9_all 20 = .ok (.i2l, 1) := by decide +kernel
theorem dX9_all_21 : decode cX9_all 21 = .ok (.lconst 0, 1) := by decide +kernel
theorem dX9_all_22 : decode cX9_all 22 = .ok (.iload_n 2, 1) := by decide +kernel
theorem dX9_all_23 : decode cX9_all 23 = .ok (.i2l, 1) := by decide +kernel
theorem dX9_all_24 : decode cX9_all 24 = .ok (.invokestatic 63, 3) := by decide +kernel
theorem dX9_all_27 : decode cX9_all 27 = .ok (.ifCond .eq 19, 3) := by decide +kernel
theorem dX9_all_30 : decode cX9_all 30 = .ok (.iload 4, 2) := by decide +kernel
theorem dX9_all_32 : decode cX9_all 32 = .ok (.i2l, 1) := by decide +kernel
theorem dX9_all_33 : decode cX9_all 33 = .ok (.ldc2_w 285, 3) := by decide +kernel
theorem dX9_all_36 : decode cX9_all 36 = .ok (.iload_n 2, 1) := by decide +kernel
theorem dX9_all_37 : decode cX9_all 37 = .ok (.iconst 1, 1) := by decide +kernel
theorem dX9_all_38 : decode cX9_all 38 = .ok (.isub, 1) := by decide +kernel
theorem dX9_all_39 : decode cX9_all 39 = .ok (.i2l, 1) := by decide +kernel
theorem dX9_all_40 : decode cX9_all 40 = .ok (.invokestatic 63, 3) := by decide +kernel
theorem dX9_all_43 : decode cX9_all 43 = .ok (.ifCond .ne 6, 3) := by decide +kernel
theorem dX9_all_46 : decode cX9_all 46 = .ok (.bipush (-2), 2) := by decide +kernel
theorem dX9_all_48 : decode cX9_all 48 = .ok (.ireturn, 1) := by decide +kernel
theorem dX9_all_49 : decode cX9_all 49 = .ok (.aload_n 0, 1) := by decide +kernel
theorem dX9_all_50 : decode cX9_all 50 = .ok (.iload_n 2, 1) := by decide +kernel
theorem dX9_all_51 : decode cX9_all 51 = .ok (.invokevirtual 176, 3) := by decide +kernel
theorem dX9_all_54 : decode cX9_all 54 = .ok (.iconst 0, 1) := by decide +kernel
theorem dX9_all_55 : decode cX9_all 55 = .ok (.istore 5, 2) := by decide +kernel
theorem dX9_all_57 : decode cX9_all 57 = .ok (.iload 5, 2) := by decide +kernel
theorem dX9_all_59 : decode cX9_all 59 = .ok (.iconst 1, 1) := by decide +kernel
theorem dX9_all_60 : decode cX9_all 60 = .ok (.iload_n 2, 1) := by decide +kernel
theorem dX9_all_61 : decode cX9_all 61 = .ok (.ishl, 1) := by decide +kernel
theorem dX9_all_62 : decode cX9_all 62 = .ok (.if_icmp .ge 46, 3) := by decide +kernel
theorem dX9_all_65 : decode cX9_all 65 = .ok (.aload_n 0, 1) := by decide +kernel
theorem dX9_all_66 : decode cX9_all 66 = .ok (.getfield 13, 3) := by decide +kernel
theorem dX9_all_69 : decode cX9_all 69 = .ok (.iload 5, 2) := by decide +kernel
theorem dX9_all_71 : decode cX9_all 71 = .ok (.iload 5, 2) := by decide +kernel
theorem dX9_all_73 : decode cX9_all 73 = .ok (.invokestatic 198, 3) := by decide +kernel
theorem dX9_all_76 : decode cX9_all 76 = .ok (.iload_n 3, 1) := by decide +kernel
theorem dX9_all_77 : decode cX9_all 77 = .ok (.if_icmp .ne 23, 3) := by decide +kernel
theorem dX9_all_80 : decode cX9_all 80 = .ok (.iload 4, 2) := by decide +kernel
theorem dX9_all_82 : decode cX9_all 82 = .ok (.iconst (-1), 1) := by decide +kernel
theorem dX9_all_83 : decode cX9_all 83 = .ok (.if_icmp .eq 13, 3) := by decide +kernel
theorem dX9_all_86 : decode cX9_all 86 = .ok (.iload 5, 2) := by decide +kernel
theorem dX9_all_88 : decode cX9_all 88 = .ok (.iload 4, 2) := by decide +kernel
theorem dX9_all_90 : decode cX9_all 90 = .ok (.invokestatic 169, 3) := by decide +kernel
theorem dX9_all_93 : decode cX9_all 93 = .ok (.ifCond .eq 7, 3) := by decide +kernel
theorem dX9_all_96 : decode cX9_all 96 = .ok (.iconst 1, 1) := by decide +kernel
theorem dX9_all_97 : decode cX9_all 97 = .ok (.goto 4, 3) := by decide +kernel
theorem dX9_all_100 : decode cX9_all 100 = .ok (.iconst 0, 1) := by decide +kernel
theorem dX9_all_101 : decode cX9_all 101 = .ok (.bastore, 1) := by decide +kernel
theorem dX9_all_102 : decode cX9_all 102 = .ok (.iinc 5 1, 3) := by decide +kernel
theorem dX9_all_105 : decode cX9_all 105 = .ok (.goto (-48), 3) := by decide +kernel
theorem dX9_all_108 : decode cX9_all 108 = .ok (.aload_n 0, 1) := by decide +kernel
theorem dX9_all_109 : decode cX9_all 109 = .ok (.iload_n 1, 1) := by decide +kernel
theorem dX9_all_110 : decode cX9_all 110 = .ok (.invokevirtual 188, 3) := by decide +kernel
theorem dX9_all_113 : decode cX9_all 113 = .ok (.ireturn, 1) := by decide +kernel
theorem dX9_greatestFor_0 : decode cX9_greatestFor 0 = .ok (.iload_n 1, 1) := by decide +kernel
theorem dX9_greatestFor_1 : decode cX9_greatestFor 1 = .ok (.istore_n 2, 1) := by decide +kernel
theorem dX9_greatestFor_2 : decode cX9_greatestFor 2 = .ok (.iload_n 2, 1) := by decide +kernel
theorem dX9_greatestFor_3 : decode cX9_greatestFor 3 = .ok (.iconst 1, 1) := by decide +kernel
theorem dX9_greatestFor_4 : decode cX9_greatestFor 4 = .ok (.iadd, 1) := by decide +kernel
theorem dX9_greatestFor_5 : decode cX9_greatestFor 5 = .ok (.iload_n 1, 1) := by decide +kernel
theorem dX9_greatestFor_6 : decode cX9_greatestFor 6 = .ok (.invokestatic 281, 3) := by decide +kernel
theorem dX9_greatestFor_9 : decode cX9_greatestFor 9 = .ok (.iload_n 0, 1) := by decide +kernel
theorem dX9_greatestFor_10 : decode cX9_greatestFor 10 = .ok (.i2l, 1) := by decide +kernel
theorem dX9_greatestFor_11 : decode cX9_greatestFor 11 = .ok (.lcmp, 1) := by decide +kernel
theorem dX9_greatestFor_12 : decode cX9_greatestFor 12 = .ok (.ifCond .gt 9, 3) := by decide +kernel
theorem dX9_greatestFor_15 : decode cX9_greatestFor 15 = .ok (.iinc 2 1, 3) := by decide +kernel
theorem dX9_greatestFor_18 : decode cX9_greatestFor 18 = .ok (.goto (-16), 3) := by decide +kernel
theorem dX9_greatestFor_21 : decode cX9_greatestFor 21 = .ok (.iload_n 2, 1) := by decide +kernel
theorem dX9_greatestFor_22 : decode cX9_greatestFor 22 = .ok (.ireturn, 1) := by decide +kernel
theorem dX9_cascade_0 : decode cX9_cascade 0 = .ok (.iload_n 1, 1) := by decide +kernel
theorem dX9_cascade_1 : decode cX9_cascade 1 = .ok (.i2l, 1) := by decide +kernel
theorem dX9_cascade_2 : decode cX9_cascade 2 = .ok (.lconst 0, 1) := by decide +kernel
theorem dX9_cascade_3 : decode cX9_cascade 3 = .ok (.ldc2_w 287, 3) := by decide +kernel
theorem dX9_cascade_6 : decode cX9_cascade 6 = .ok (.invokestatic 63, 3) := by decide +kernel
theorem dX9_cascade_9 : decode cX9_cascade 9 = .ok (.ifCond .eq 19, 3) := by decide +kernel
theorem dX9_cascade_12 : decode cX9_cascade 12 = .ok (.iload_n 2, 1) := by decide +kernel
theorem dX9_cascade_13 : decode cX9_cascade 13 = .ok (.i2l, 1) := by decide +kernel
theorem dX9_cascade_14 : decode cX9_cascade 14 = .ok (.lconst 1, 1) := by decide +kernel
theorem dX9_cascade_15 : decode cX9_cascade 15 = .ok (.ldc2_w 174, 3) := by decide +kernel
theorem dX9_cascade_18 : decode cX9_cascade 18 = .ok (.invokestatic 63, 3) := by decide +kernel
theorem dX9_cascade_21 : decode cX9_cascade 21 = .ok (.ifCond .eq 7, 3) := by decide +kernel
theorem dX9_cascade_24 : decode cX9_cascade 24 = .ok (.iload_n 3, 1) := by decide +kernel
theorem dX9_cascade_25 : decode cX9_cascade 25 = .ok (.ifCond .ge 6, 3) := by decide +kernel
theorem dX9_cascade_28 : decode cX9_cascade 28 = .ok (.bipush (-2), 2) := by decide +kernel
theorem dX9_cascade_30 : decode cX9_cascade 30 = .ok (.ireturn, 1) := by decide +kernel
theorem dX9_cascade_31 : decode cX9_cascade 31 = .ok (.iload_n 1, 1) := by decide +kernel
theorem dX9_cascade_32 : decode cX9_cascade 32 = .ok (.istore 4, 2) := by decide +kernel
theorem dX9_cascade_34 : decode cX9_cascade 34 = .ok (.iload_n 2, 1) := by decide +kernel
theorem dX9_cascade_35 : decode cX9_cascade 35 = .ok (.istore 5, 2) := by decide +kernel
theorem dX9_cascade_37 : decode cX9_cascade 37 = .ok (.iconst 0, 1) := by decide +kernel
theorem dX9_cascade_38 : decode cX9_cascade 38 = .ok (.istore 6, 2) := by decide +kernel
theorem dX9_cascade_40 : decode cX9_cascade 40 = .ok (.iload 4, 2) := by decide +kernel
theorem dX9_cascade_42 : decode cX9_cascade 42 = .ok (.ifCond .le 43, 3) := by decide +kernel
theorem dX9_cascade_45 : decode cX9_cascade 45 = .ok (.iload 4, 2) := by decide +kernel
theorem dX9_cascade_47 : decode cX9_cascade 47 = .ok (.iload 5, 2) := by decide +kernel
theorem dX9_cascade_49 : decode cX9_cascade 49 = .ok (.invokestatic 289, 3) := by decide +kernel
theorem dX9_cascade_52 : decode cX9_cascade 52 = .ok (.istore 7, 2) := by decide +kernel
theorem dX9_cascade_54 : decode cX9_cascade 54 = .ok (.iload 6, 2) := by decide +kernel
theorem dX9_cascade_56 : decode cX9_cascade 56 = .ok (.iload_n 3, 1) := by decide +kernel
theorem dX9_cascade_57 : decode cX9_cascade 57 = .ok (.if_icmp .ne 6, 3) := by decide +kernel
theorem dX9_cascade_60 : decode cX9_cascade 60 = .ok (.iload 7, 2) := by decide +kernel
theorem dX9_cascade_62 : decode cX9_cascade 62 = .ok (.ireturn, 1) := by decide +kernel
theorem dX9_cascade_63 : decode cX9_cascade 63 = .ok (.iload 4, 2) := by decide +kernel
theorem dX9_cascade_65 : decode cX9_cascade 65 = .ok (.iload 7, 2) := by decide +kernel
theorem dX9_cascade_67 : decode cX9_cascade 67 = .ok (.iload 5, 2) := by decide +kernel
theorem dX9_cascade_69 : decode cX9_cascade 69 = .ok (.invokestatic 281, 3) := by decide +kernel
theorem dX9_cascade_72 : decode cX9_cascade 72 = .ok (.l2i, 1) := by decide +kernel
theorem dX9_cascade_73 : decode cX9_cascade 73 = .ok (.isub, 1) := by decide +kernel
theorem dX9_cascade_74 : decode cX9_cascade 74 = .ok (.istore 4, 2) := by decide +kernel
theorem dX9_cascade_76 : decode cX9_cascade 76 = .ok (.iinc 5 (-1), 3) := by decide +kernel
theorem dX9_cascade_79 : decode cX9_cascade 79 = .ok (.iinc 6 1, 3) := by decide +kernel
theorem dX9_cascade_82 : decode cX9_cascade 82 = .ok (.goto (-42), 3) := by decide +kernel
theorem dX9_cascade_85 : decode cX9_cascade 85 = .ok (.iconst (-1), 1) := by decide +kernel
theorem dX9_cascade_86 : decode cX9_cascade 86 = .ok (.ireturn, 1) := by decide +kernel
theorem dX9_least_0 : decode cX9_least 0 = .ok (.iload_n 1, 1) := by decide +kernel
theorem dX9_least_1 : decode cX9_least 1 = .ok (.i2l, 1) := by decide +kernel
theorem dX9_least_2 : decode cX9_least 2 = .ok (.lconst 0, 1) := by decide +kernel
theorem dX9_least_3 : decode cX9_least 3 = .ok (.ldc2_w 287, 3) := by decide +kernel
theorem dX9_least_6 : decode cX9_least 6 = .ok (.invokestatic 63, 3) := by decide +kernel
theorem dX9_least_9 : decode cX9_least 9 = .ok (.ifCond .eq 15, 3) := by decide +kernel
theorem dX9_least_12 : decode cX9_least 12 = .ok (.iload_n 2, 1) := by decide +kernel
theorem dX9_least_13 : decode cX9_least 13 = .ok (.i2l, 1) := by decide +kernel
theorem dX9_least_14 : decode cX9_least 14 = .ok (.lconst 1, 1) := by decide +kernel
theorem dX9_least_15 : decode cX9_least 15 = .ok (.ldc2_w 174, 3) := by decide +kernel
theorem dX9_least_18 : decode cX9_least 18 = .ok (.invokestatic 63, 3) := by decide +kernel
theorem dX9_least_21 : decode cX9_least 21 = .ok (.ifCond .ne 6, 3) := by decide +kernel
theorem dX9_least_24 : decode cX9_least 24 = .ok (.bipush (-2), 2) := by decide +kernel
theorem dX9_least_26 : decode cX9_least 26 = .ok (.ireturn, 1) := by decide +kernel
theorem dX9_least_27 : decode cX9_least 27 = .ok (.iload_n 1, 1) := by decide +kernel
theorem dX9_least_28 : decode cX9_least 28 = .ok (.istore_n 3, 1) := by decide +kernel
theorem dX9_least_29 : decode cX9_least 29 = .ok (.iload_n 2, 1) := by decide +kernel
theorem dX9_least_30 : decode cX9_least 30 = .ok (.istore 4, 2) := by decide +kernel
theorem dX9_least_32 : decode cX9_least 32 = .ok (.iconst 0, 1) := by decide +kernel
theorem dX9_least_33 : decode cX9_least 33 = .ok (.istore 5, 2) := by decide +kernel
theorem dX9_least_35 : decode cX9_least 35 = .ok (.iload_n 3, 1) := by decide +kernel
theorem dX9_least_36 : decode cX9_least 36 = .ok (.ifCond .le 43, 3) := by decide +kernel
theorem dX9_least_39 : decode cX9_least 39 = .ok (.iload_n 3, 1) := by decide +kernel
theorem dX9_least_40 : decode cX9_least 40 = .ok (.iload 4, 2) := by decide +kernel
theorem dX9_least_42 : decode cX9_least 42 = .ok (.invokestatic 289, 3) := by decide +kernel
theorem dX9_least_45 : decode cX9_least 45 = .ok (.istore 6, 2) := by decide +kernel
theorem dX9_least_47 : decode cX9_least 47 = .ok (.iload 5, 2) := by decide +kernel
theorem dX9_least_49 : decode cX9_least 49 = .ok (.iload 6, 2) := by decide +kernel
theorem dX9_least_51 : decode cX9_least 51 = .ok (.iload 4, 2) := by decide +kernel
theorem dX9_least_53 : decode cX9_least 53 = .ok (.iconst 1, 1) := by decide +kernel
theorem dX9_least_54 : decode cX9_least 54 = .ok (.isub, 1) := by decide +kernel
theorem dX9_least_55 : decode cX9_least 55 = .ok (.invokestatic 281, 3) := by decide +kernel
theorem dX9_least_58 : decode cX9_least 58 = .ok (.l2i, 1) := by decide +kernel
theorem dX9_least_59 : decode cX9_least 59 = .ok (.iadd, 1) := by decide +kernel
theorem dX9_least_60 : decode cX9_least 60 = .ok (.istore 5, 2) := by decide +kernel
theorem dX9_least_62 : decode cX9_least 62 = .ok (.iload_n 3, 1) := by decide +kernel
theorem dX9_least_63 : decode cX9_least 63 = .ok (.iload 6, 2) := by decide +kernel
theorem dX9_least_65 : decode cX9_least 65 = .ok (.iload 4, 2) := by decide +kernel
theorem dX9_least_67 : decode cX9_least 67 = .ok (.invokestatic 281, 3) := by decide +kernel
theorem dX9_least_70 : decode cX9_least 70 = .ok (.l2i, 1) := by decide +kernel
theorem dX9_least_71 : decode cX9_least 71 = .ok (.isub, 1) := by decide +kernel
theorem dX9_least_72 : decode cX9_least 72 = .ok (.istore_n 3, 1) := by decide +kernel
theorem dX9_least_73 : decode cX9_least 73 = .ok (.iinc 4 (-1), 3) := by decide +kernel
theorem dX9_least_76 : decode cX9_least 76 = .ok (.goto (-41), 3) := by decide +kernel
theorem dX9_least_79 : decode cX9_least 79 = .ok (.iload 5, 2) := by decide +kernel
theorem dX9_least_81 : decode cX9_least 81 = .ok (.ireturn, 1) := by decide +kernel
theorem dX9_gosWith_0 : decode cX9_gosWith 0 = .ok (.iload_n 0, 1) := by decide +kernel
theorem dX9_gosWith_1 : decode cX9_gosWith 1 = .ok (.iload_n 1, 1) := by decide +kernel
theorem dX9_gosWith_2 : decode cX9_gosWith 2 = .ok (.iand, 1) := by decide +kernel
theorem dX9_gosWith_3 : decode cX9_gosWith 3 = .ok (.iload_n 0, 1) := by decide +kernel
theorem dX9_gosWith_4 : decode cX9_gosWith 4 = .ok (.if_icmp .eq 10, 3) := by decide +kernel
theorem dX9_gosWith_7 : decode cX9_gosWith 7 = .ok (.iload_n 0, 1) := by decide +kernel
theorem dX9_gosWith_8 : decode cX9_gosWith 8 = .ok (.iload_n 1, 1) := by decide +kernel
theorem dX9_gosWith_9 : decode cX9_gosWith 9 = .ok (.iand, 1) := by decide +kernel
theorem dX9_gosWith_10 : decode cX9_gosWith 10 = .ok (.iload_n 1, 1) := by decide +kernel
theorem dX9_gosWith_11 : decode cX9_gosWith 11 = .ok (.if_icmp .ne 7, 3) := by decide +kernel
theorem dX9_gosWith_14 : decode cX9_gosWith 14 = .ok (.iconst 1, 1) := by decide +kernel
theorem dX9_gosWith_15 : decode cX9_gosWith 15 = .ok (.goto 4, 3) := by decide +kernel
theorem dX9_gosWith_18 : decode cX9_gosWith 18 = .ok (.iconst 0, 1) := by decide +kernel
theorem dX9_gosWith_19 : decode cX9_gosWith 19 = .ok (.istore_n 3, 1) := by decide +kernel
theorem dX9_gosWith_20 : decode cX9_gosWith 20 = .ok (.iload_n 2, 1) := by decide +kernel
theorem dX9_gosWith_21 : decode cX9_gosWith 21 = .ok (.ifCond .ne 17, 3) := by decide +kernel
theorem dX9_gosWith_24 : decode cX9_gosWith 24 = .ok (.iload_n 0, 1) := by decide +kernel
theorem dX9_gosWith_25 : decode cX9_gosWith 25 = .ok (.iload_n 1, 1) := by decide +kernel
theorem dX9_gosWith_26 : decode cX9_gosWith 26 = .ok (.iand, 1) := by decide +kernel
theorem dX9_gosWith_27 : decode cX9_gosWith 27 = .ok (.ifCond .eq 7, 3) := by decide +kernel
theorem dX9_gosWith_30 : decode cX9_gosWith 30 = .ok (.iconst 1, 1) := by decide +kernel
theorem dX9_gosWith_31 : decode cX9_gosWith 31 = .ok (.goto 44, 3) := by decide +kernel
theorem dX9_gosWith_34 : decode cX9_gosWith 34 = .ok (.iconst 0, 1) := by decide +kernel
theorem dX9_gosWith_35 : decode cX9_gosWith 35 = .ok (.goto 40, 3) := by decide +kernel
theorem dX9_gosWith_38 : decode cX9_gosWith 38 = .ok (.iload_n 2, 1) := by decide +kernel
theorem dX9_gosWith_39 : decode cX9_gosWith 39 = .ok (.iconst 1, 1) := by decide +kernel
theorem dX9_gosWith_40 : decode cX9_gosWith 40 = .ok (.if_icmp .ne 17, 3) := by decide +kernel
theorem dX9_gosWith_43 : decode cX9_gosWith 43 = .ok (.iload_n 0, 1) := by decide +kernel
theorem dX9_gosWith_44 : decode cX9_gosWith 44 = .ok (.iload_n 1, 1) := by decide +kernel
theorem dX9_gosWith_45 : decode cX9_gosWith 45 = .ok (.iand, 1) := by decide +kernel
theorem dX9_gosWith_46 : decode cX9_gosWith 46 = .ok (.ifCond .ne 7, 3) := by decide +kernel
theorem dX9_gosWith_49 : decode cX9_gosWith 49 = .ok (.iconst 1, 1) := by decide +kernel
theorem dX9_gosWith_50 : decode cX9_gosWith 50 = .ok (.goto 25, 3) := by decide +kernel
theorem dX9_gosWith_53 : decode cX9_gosWith 53 = .ok (.iconst 0, 1) := by decide +kernel
theorem dX9_gosWith_54 : decode cX9_gosWith 54 = .ok (.goto 21, 3) := by decide +kernel
theorem dX9_gosWith_57 : decode cX9_gosWith 57 = .ok (.iload_n 2, 1) := by decide +kernel
theorem dX9_gosWith_58 : decode cX9_gosWith 58 = .ok (.iconst 2, 1) := by decide +kernel
theorem dX9_gosWith_59 : decode cX9_gosWith 59 = .ok (.if_icmp .ne 15, 3) := by decide +kernel
theorem dX9_gosWith_62 : decode cX9_gosWith 62 = .ok (.iload_n 3, 1) := by decide +kernel
theorem dX9_gosWith_63 : decode cX9_gosWith 63 = .ok (.ifCond .ne 7, 3) := by decide +kernel
theorem dX9_gosWith_66 : decode cX9_gosWith 66 = .ok (.iconst 1, 1) := by decide +kernel
theorem dX9_gosWith_67 : decode cX9_gosWith 67 = .ok (.goto 8, 3) := by decide +kernel
theorem dX9_gosWith_70 : decode cX9_gosWith 70 = .ok (.iconst 0, 1) := by decide +kernel
theorem dX9_gosWith_71 : decode cX9_gosWith 71 = .ok (.goto 4, 3) := by decide +kernel
theorem dX9_gosWith_74 : decode cX9_gosWith 74 = .ok (.iload_n 3, 1) := by decide +kernel
theorem dX9_gosWith_75 : decode cX9_gosWith 75 = .ok (.ireturn, 1) := by decide +kernel
theorem dX9_goes_0 : decode cX9_goes 0 = .ok (.iload_n 2, 1) := by decide +kernel
theorem dX9_goes_1 : decode cX9_goes 1 = .ok (.istore 6, 2) := by decide +kernel
theorem dX9_goes_3 : decode cX9_goes 3 = .ok (.iload 6, 2) := by decide +kernel
theorem dX9_goes_5 : decode cX9_goes 5 = .ok (.iload_n 3, 1) := by decide +kernel
theorem dX9_goes_6 : decode cX9_goes 6 = .ok (.if_icmp .ge 209, 3) := by decide +kernel
theorem dX9_goes_9 : decode cX9_goes 9 = .ok (.iload 4, 2) := by decide +kernel
theorem dX9_goes_11 : decode cX9_goes 11 = .ok (.iload_n 3, 1) := by decide +kernel
theorem dX9_goes_12 : decode cX9_goes 12 = .ok (.iadd, 1) := by decide +kernel
theorem dX9_goes_13 : decode cX9_goes 13 = .ok (.iload 6, 2) := by decide +kernel
theorem dX9_goes_15 : decode cX9_goes 15 = .ok (.isub, 1) := by decide +kernel
theorem dX9_goes_16 : decode cX9_goes 16 = .ok (.aload_n 0, 1) := by decide +kernel
theorem dX9_goes_17 : decode cX9_goes 17 = .ok (.getfield 292, 3) := by decide +kernel
theorem dX9_goes_20 : decode cX9_goes 20 = .ok (.if_icmp .le 195, 3) := by decide +kernel
theorem dX9_goes_23 : decode cX9_goes 23 = .ok (.aload_n 0, 1) := by decide +kernel
theorem dX9_goes_24 : decode cX9_goes 24 = .ok (.getfield 295, 3) := by decide +kernel
theorem dX9_goes_27 : decode cX9_goes 27 = .ok (.ifCond .ne 5, 3) := by decide +kernel
theorem dX9_goes_30 : decode cX9_goes 30 = .ok (.iconst 1, 1) := by decide +kernel
theorem dX9_goes_31 : decode cX9_goes 31 = .ok (.ireturn, 1) := by decide +kernel
theorem dX9_goes_32 : decode cX9_goes 32 = .ok (.aload_n 0, 1) := by decide +kernel
theorem dX9_goes_33 : decode cX9_goes 33 = .ok (.dup, 1) := by decide +kernel
theorem dX9_goes_34 : decode cX9_goes 34 = .ok (.getfield 295, 3) := by decide +kernel
theorem dX9_goes_37 : decode cX9_goes 37 = .ok (.iconst 1, 1) := by decide +kernel
theorem dX9_goes_38 : decode cX9_goes 38 = .ok (.isub, 1) := by decide +kernel
theorem dX9_goes_39 : decode cX9_goes 39 = .ok (.putfield 295, 3) := by decide +kernel
theorem dX9_goes_42 : decode cX9_goes 42 = .ok (.aload_n 0, 1) := by decide +kernel
theorem dX9_goes_43 : decode cX9_goes 43 = .ok (.dup, 1) := by decide +kernel
theorem dX9_goes_44 : decode cX9_goes 44 = .ok (.getfield 298, 3) := by decide +kernel
theorem dX9_goes_47 : decode cX9_goes 47 = .ok (.iconst 1, 1) := by decide +kernel
theorem dX9_goes_48 : decode cX9_goes 48 = .ok (.iadd, 1) := by decide +kernel
theorem dX9_goes_49 : decode cX9_goes 49 = .ok (.putfield 298, 3) := by decide +kernel
theorem dX9_goes_52 : decode cX9_goes 52 = .ok (.aload_n 0, 1) := by decide +kernel
theorem dX9_goes_53 : decode cX9_goes 53 = .ok (.getfield 28, 3) := by decide +kernel
theorem dX9_goes_56 : decode cX9_goes 56 = .ok (.iload_n 1, 1) := by decide +kernel
theorem dX9_goes_57 : decode cX9_goes 57 = .ok (.iload 6, 2) := by decide +kernel
theorem dX9_goes_59 : decode cX9_goes 59 = .ok (.iadd, 1) := by decide +kernel
theorem dX9_goes_60 : decode cX9_goes 60 = .ok (.iaload, 1) := by decide +kernel
theorem dX9_goes_61 : decode cX9_goes 61 = .ok (.istore 7, 2) := by decide +kernel
theorem dX9_goes_63 : decode cX9_goes 63 = .ok (.aload_n 0, 1) := by decide +kernel
theorem dX9_goes_64 : decode cX9_goes 64 = .ok (.getfield 31, 3) := by decide +kernel
theorem dX9_goes_67 : decode cX9_goes 67 = .ok (.iload 4, 2) := by decide +kernel
theorem dX9_goes_69 : decode cX9_goes 69 = .ok (.iload 7, 2) := by decide +kernel
theorem dX9_goes_71 : decode cX9_goes 71 = .ok (.iastore, 1) := by decide +kernel
theorem dX9_goes_72 : decode cX9_goes 72 = .ok (.iconst 0, 1) := by decide +kernel
theorem dX9_goes_73 : decode cX9_goes 73 = .ok (.istore 8, 2) := by decide +kernel
theorem dX9_goes_75 : decode cX9_goes 75 = .ok (.iload 6, 2) := by decide +kernel
theorem dX9_goes_77 : decode cX9_goes 77 = .ok (.iconst 1, 1) := by decide +kernel
theorem dX9_goes_78 : decode cX9_goes 78 = .ok (.iadd, 1) := by decide +kernel
theorem dX9_goes_79 : decode cX9_goes 79 = .ok (.istore 9, 2) := by decide +kernel
theorem dX9_goes_81 : decode cX9_goes 81 = .ok (.iload 9, 2) := by decide +kernel
theorem dX9_goes_83 : decode cX9_goes 83 = .ok (.iload_n 3, 1) := by decide +kernel
theorem dX9_goes_84 : decode cX9_goes 84 = .ok (.if_icmp .ge 53, 3) := by decide +kernel
theorem dX9_goes_87 : decode cX9_goes 87 = .ok (.aload_n 0, 1) := by decide +kernel
theorem dX9_goes_88 : decode cX9_goes 88 = .ok (.getfield 28, 3) := by decide +kernel
theorem dX9_goes_91 : decode cX9_goes 91 = .ok (.iload_n 1, 1) := by decide +kernel
theorem dX9_goes_92 : decode cX9_goes 92 = .ok (.iload 9, 2) := by decide +kernel
theorem dX9_goes_94 : decode cX9_goes 94 = .ok (.iadd, 1) := by decide +kernel
theorem dX9_goes_95 : decode cX9_goes 95 = .ok (.iaload, 1) := by decide +kernel
theorem dX9_goes_96 : decode cX9_goes 96 = .ok (.istore 10, 2) := by decide +kernel
