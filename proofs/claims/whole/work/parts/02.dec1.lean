theorem dX0_init_0 : decode cX0_init 0 = .ok (.aload_n 0, 1) := by decide +kernel
theorem dX0_init_1 : decode cX0_init 1 = .ok (.iload_n 1, 1) := by decide +kernel
theorem dX0_init_2 : decode cX0_init 2 = .ok (.iload_n 2, 1) := by decide +kernel
theorem dX0_init_3 : decode cX0_init 3 = .ok (.invokespecial 3, 3) := by decide +kernel
theorem dX0_init_6 : decode cX0_init 6 = .ok (.return_, 1) := by decide +kernel
theorem dX0_share_0 : decode cX0_share 0 = .ok (.iload_n 3, 1) := by decide +kernel
theorem dX0_share_1 : decode cX0_share 1 = .ok (.iconst 2, 1) := by decide +kernel
theorem dX0_share_2 : decode cX0_share 2 = .ok (.if_icmp .ge 17, 3) := by decide +kernel
theorem dX0_share_5 : decode cX0_share 5 = .ok (.iload_n 2, 1) := by decide +kernel
theorem dX0_share_6 : decode cX0_share 6 = .ok (.iload_n 1, 1) := by decide +kernel
theorem dX0_share_7 : decode cX0_share 7 = .ok (.if_icmp .ne 10, 3) := by decide +kernel
theorem dX0_share_10 : decode cX0_share 10 = .ok (.iload_n 3, 1) := by decide +kernel
theorem dX0_share_11 : decode cX0_share 11 = .ok (.invokestatic 9, 3) := by decide +kernel
theorem dX0_share_14 : decode cX0_share 14 = .ok (.goto 4, 3) := by decide +kernel
theorem dX0_share_17 : decode cX0_share 17 = .ok (.iconst 0, 1) := by decide +kernel
theorem dX0_share_18 : decode cX0_share 18 = .ok (.ireturn, 1) := by decide +kernel
theorem dX0_share_19 : decode cX0_share 19 = .ok (.iload_n 2, 1) := by decide +kernel
theorem dX0_share_20 : decode cX0_share 20 = .ok (.iload_n 3, 1) := by decide +kernel
theorem dX0_share_21 : decode cX0_share 21 = .ok (.if_icmp .lt 5, 3) := by decide +kernel
theorem dX0_share_24 : decode cX0_share 24 = .ok (.iconst 0, 1) := by decide +kernel
theorem dX0_share_25 : decode cX0_share 25 = .ok (.ireturn, 1) := by decide +kernel
theorem dX0_share_26 : decode cX0_share 26 = .ok (.iload_n 2, 1) := by decide +kernel
theorem dX0_share_27 : decode cX0_share 27 = .ok (.iload_n 1, 1) := by decide +kernel
theorem dX0_share_28 : decode cX0_share 28 = .ok (.if_icmp .ne 17, 3) := by decide +kernel
theorem dX0_share_31 : decode cX0_share 31 = .ok (.bipush 100, 2) := by decide +kernel
theorem dX0_share_33 : decode cX0_share 33 = .ok (.aload_n 0, 1) := by decide +kernel
theorem dX0_share_34 : decode cX0_share 34 = .ok (.getfield 15, 3) := by decide +kernel
theorem dX0_share_37 : decode cX0_share 37 = .ok (.isub, 1) := by decide +kernel
theorem dX0_share_38 : decode cX0_share 38 = .ok (.iload_n 3, 1) := by decide +kernel
theorem dX0_share_39 : decode cX0_share 39 = .ok (.iconst 1, 1) := by decide +kernel
theorem dX0_share_40 : decode cX0_share 40 = .ok (.isub, 1) := by decide +kernel
theorem dX0_share_41 : decode cX0_share 41 = .ok (.imul, 1) := by decide +kernel
theorem dX0_share_42 : decode cX0_share 42 = .ok (.goto 7, 3) := by decide +kernel
theorem dX0_share_45 : decode cX0_share 45 = .ok (.aload_n 0, 1) := by decide +kernel
theorem dX0_share_46 : decode cX0_share 46 = .ok (.getfield 15, 3) := by decide +kernel
theorem dX0_share_49 : decode cX0_share 49 = .ok (.ireturn, 1) := by decide +kernel
theorem dX0_hears_0 : decode cX0_hears 0 = .ok (.iload_n 2, 1) := by decide +kernel
theorem dX0_hears_1 : decode cX0_hears 1 = .ok (.iconst 2, 1) := by decide +kernel
theorem dX0_hears_2 : decode cX0_hears 2 = .ok (.if_icmp .lt 16, 3) := by decide +kernel
theorem dX0_hears_5 : decode cX0_hears 5 = .ok (.aload_n 3, 1) := by decide +kernel
theorem dX0_hears_6 : decode cX0_hears 6 = .ok (.bipush 100, 2) := by decide +kernel
theorem dX0_hears_8 : decode cX0_hears 8 = .ok (.invokevirtual 19, 3) := by decide +kernel
theorem dX0_hears_11 : decode cX0_hears 11 = .ok (.aload_n 0, 1) := by decide +kernel
theorem dX0_hears_12 : decode cX0_hears 12 = .ok (.getfield 15, 3) := by decide +kernel
theorem dX0_hears_15 : decode cX0_hears 15 = .ok (.if_icmp .lt 5, 3) := by decide +kernel
theorem dX0_hears_18 : decode cX0_hears 18 = .ok (.iload_n 1, 1) := by decide +kernel
theorem dX0_hears_19 : decode cX0_hears 19 = .ok (.ireturn, 1) := by decide +kernel
theorem dX0_hears_20 : decode cX0_hears 20 = .ok (.aload_n 3, 1) := by decide +kernel
theorem dX0_hears_21 : decode cX0_hears 21 = .ok (.iload_n 2, 1) := by decide +kernel
theorem dX0_hears_22 : decode cX0_hears 22 = .ok (.iconst 1, 1) := by decide +kernel
theorem dX0_hears_23 : decode cX0_hears 23 = .ok (.isub, 1) := by decide +kernel
theorem dX0_hears_24 : decode cX0_hears 24 = .ok (.invokevirtual 19, 3) := by decide +kernel
theorem dX0_hears_27 : decode cX0_hears 27 = .ok (.istore 4, 2) := by decide +kernel
theorem dX0_hears_29 : decode cX0_hears 29 = .ok (.iload 4, 2) := by decide +kernel
theorem dX0_hears_31 : decode cX0_hears 31 = .ok (.iload_n 1, 1) := by decide +kernel
theorem dX0_hears_32 : decode cX0_hears 32 = .ok (.if_icmp .ge 8, 3) := by decide +kernel
theorem dX0_hears_35 : decode cX0_hears 35 = .ok (.iload 4, 2) := by decide +kernel
theorem dX0_hears_37 : decode cX0_hears 37 = .ok (.goto 7, 3) := by decide +kernel
theorem dX0_hears_40 : decode cX0_hears 40 = .ok (.iload 4, 2) := by decide +kernel
theorem dX0_hears_42 : decode cX0_hears 42 = .ok (.iconst 1, 1) := by decide +kernel
theorem dX0_hears_43 : decode cX0_hears 43 = .ok (.iadd, 1) := by decide +kernel
theorem dX0_hears_44 : decode cX0_hears 44 = .ok (.ireturn, 1) := by decide +kernel
theorem dX1_init_0 : decode cX1_init 0 = .ok (.aload_n 0, 1) := by decide +kernel
theorem dX1_init_1 : decode cX1_init 1 = .ok (.invokespecial 3, 3) := by decide +kernel
theorem dX1_init_4 : decode cX1_init 4 = .ok (.aload_n 0, 1) := by decide +kernel
theorem dX1_init_5 : decode cX1_init 5 = .ok (.iconst 4, 1) := by decide +kernel
theorem dX1_init_6 : decode cX1_init 6 = .ok (.newarray .int, 2) := by decide +kernel
theorem dX1_init_8 : decode cX1_init 8 = .ok (.putfield 9, 3) := by decide +kernel
theorem dX1_init_11 : decode cX1_init 11 = .ok (.aload_n 0, 1) := by decide +kernel
theorem dX1_init_12 : decode cX1_init 12 = .ok (.iconst 4, 1) := by decide +kernel
theorem dX1_init_13 : decode cX1_init 13 = .ok (.newarray .int, 2) := by decide +kernel
theorem dX1_init_15 : decode cX1_init 15 = .ok (.putfield 15, 3) := by decide +kernel
theorem dX1_init_18 : decode cX1_init 18 = .ok (.return_, 1) := by decide +kernel
theorem dX1_isLimit_0 : decode cX1_isLimit 0 = .ok (.iload_n 0, 1) := by decide +kernel
theorem dX1_isLimit_1 : decode cX1_isLimit 1 = .ok (.iconst 1, 1) := by decide +kernel
theorem dX1_isLimit_2 : decode cX1_isLimit 2 = .ok (.if_icmp .lt 12, 3) := by decide +kernel
theorem dX1_isLimit_5 : decode cX1_isLimit 5 = .ok (.iload_n 0, 1) := by decide +kernel
theorem dX1_isLimit_6 : decode cX1_isLimit 6 = .ok (.iconst 3, 1) := by decide +kernel
theorem dX1_isLimit_7 : decode cX1_isLimit 7 = .ok (.if_icmp .gt 7, 3) := by decide +kernel
theorem dX1_isLimit_10 : decode cX1_isLimit 10 = .ok (.iconst 1, 1) := by decide +kernel
theorem dX1_isLimit_11 : decode cX1_isLimit 11 = .ok (.goto 4, 3) := by decide +kernel
theorem dX1_isLimit_14 : decode cX1_isLimit 14 = .ok (.iconst 0, 1) := by decide +kernel
theorem dX1_isLimit_15 : decode cX1_isLimit 15 = .ok (.ireturn, 1) := by decide +kernel
theorem dX1_isFee_0 : decode cX1_isFee 0 = .ok (.iload_n 0, 1) := by decide +kernel
theorem dX1_isFee_1 : decode cX1_isFee 1 = .ok (.ifCond .lt 13, 3) := by decide +kernel
theorem dX1_isFee_4 : decode cX1_isFee 4 = .ok (.iload_n 0, 1) := by decide +kernel
theorem dX1_isFee_5 : decode cX1_isFee 5 = .ok (.bipush 99, 2) := by decide +kernel
theorem dX1_isFee_7 : decode cX1_isFee 7 = .ok (.if_icmp .gt 7, 3) := by decide +kernel
theorem dX1_isFee_10 : decode cX1_isFee 10 = .ok (.iconst 1, 1) := by decide +kernel
theorem dX1_isFee_11 : decode cX1_isFee 11 = .ok (.goto 4, 3) := by decide +kernel
theorem dX1_isFee_14 : decode cX1_isFee 14 = .ok (.iconst 0, 1) := by decide +kernel
theorem dX1_isFee_15 : decode cX1_isFee 15 = .ok (.ireturn, 1) := by decide +kernel
theorem dX1_stepOf_0 : decode cX1_stepOf 0 = .ok (.iload_n 0, 1) := by decide +kernel
theorem dX1_stepOf_1 : decode cX1_stepOf 1 = .ok (.ifCond .lt 24, 3) := by decide +kernel
theorem dX1_stepOf_4 : decode cX1_stepOf 4 = .ok (.iload_n 1, 1) := by decide +kernel
theorem dX1_stepOf_5 : decode cX1_stepOf 5 = .ok (.ifCond .lt 20, 3) := by decide +kernel
theorem dX1_stepOf_8 : decode cX1_stepOf 8 = .ok (.iload_n 1, 1) := by decide +kernel
theorem dX1_stepOf_9 : decode cX1_stepOf 9 = .ok (.getstatic 18, 3) := by decide +kernel
theorem dX1_stepOf_12 : decode cX1_stepOf 12 = .ok (.arraylength, 1) := by decide +kernel
theorem dX1_stepOf_13 : decode cX1_stepOf 13 = .ok (.if_icmp .ge 12, 3) := by decide +kernel
theorem dX1_stepOf_16 : decode cX1_stepOf 16 = .ok (.getstatic 18, 3) := by decide +kernel
theorem dX1_stepOf_19 : decode cX1_stepOf 19 = .ok (.iload_n 1, 1) := by decide +kernel
theorem dX1_stepOf_20 : decode cX1_stepOf 20 = .ok (.iaload, 1) := by decide +kernel
theorem dX1_stepOf_21 : decode cX1_stepOf 21 = .ok (.iconst 1, 1) := by decide +kernel
theorem dX1_stepOf_22 : decode cX1_stepOf 22 = .ok (.if_icmp .ge 5, 3) := by decide +kernel
theorem dX1_stepOf_25 : decode cX1_stepOf 25 = .ok (.iconst 0, 1) := by decide +kernel
theorem dX1_stepOf_26 : decode cX1_stepOf 26 = .ok (.ireturn, 1) := by decide +kernel
theorem dX1_stepOf_27 : decode cX1_stepOf 27 = .ok (.iload_n 0, 1) := by decide +kernel
theorem dX1_stepOf_28 : decode cX1_stepOf 28 = .ok (.getstatic 18, 3) := by decide +kernel
theorem dX1_stepOf_31 : decode cX1_stepOf 31 = .ok (.iload_n 1, 1) := by decide +kernel
theorem dX1_stepOf_32 : decode cX1_stepOf 32 = .ok (.iaload, 1) := by decide +kernel
theorem dX1_stepOf_33 : decode cX1_stepOf 33 = .ok (.idiv, 1) := by decide +kernel
theorem dX1_stepOf_34 : decode cX1_stepOf 34 = .ok (.bipush 7, 2) := by decide +kernel
theorem dX1_stepOf_36 : decode cX1_stepOf 36 = .ok (.irem, 1) := by decide +kernel
theorem dX1_stepOf_37 : decode cX1_stepOf 37 = .ok (.iconst 3, 1) := by decide +kernel
theorem dX1_stepOf_38 : decode cX1_stepOf 38 = .ok (.isub, 1) := by decide +kernel
theorem dX1_stepOf_39 : decode cX1_stepOf 39 = .ok (.ireturn, 1) := by decide +kernel
theorem dX1_has_0 : decode cX1_has 0 = .ok (.iload_n 1, 1) := by decide +kernel
theorem dX1_has_1 : decode cX1_has 1 = .ok (.ifCond .lt 15, 3) := by decide +kernel
theorem dX1_has_4 : decode cX1_has 4 = .ok (.iload_n 1, 1) := by decide +kernel
theorem dX1_has_5 : decode cX1_has 5 = .ok (.aload_n 0, 1) := by decide +kernel
theorem dX1_has_6 : decode cX1_has 6 = .ok (.getfield 21, 3) := by decide +kernel
theorem dX1_has_9 : decode cX1_has 9 = .ok (.if_icmp .ge 7, 3) := by decide +kernel
theorem dX1_has_12 : decode cX1_has 12 = .ok (.iconst 1, 1) := by decide +kernel
theorem dX1_has_13 : decode cX1_has 13 = .ok (.goto 4, 3) := by decide +kernel
theorem dX1_has_16 : decode cX1_has 16 = .ok (.iconst 0, 1) := by decide +kernel
theorem dX1_has_17 : decode cX1_has 17 = .ok (.ireturn, 1) := by decide +kernel
theorem dX1_everybody_0 : decode cX1_everybody 0 = .ok (.iconst 1, 1) := by decide +kernel
theorem dX1_everybody_1 : decode cX1_everybody 1 = .ok (.aload_n 0, 1) := by decide +kernel
theorem dX1_everybody_2 : decode cX1_everybody 2 = .ok (.getfield 21, 3) := by decide +kernel
theorem dX1_everybody_5 : decode cX1_everybody 5 = .ok (.ishl, 1) := by decide +kernel
theorem dX1_everybody_6 : decode cX1_everybody 6 = .ok (.iconst 1, 1) := by decide +kernel
theorem dX1_everybody_7 : decode cX1_everybody 7 = .ok (.isub, 1) := by decide +kernel
theorem dX1_everybody_8 : decode cX1_everybody 8 = .ok (.ireturn, 1) := by decide +kernel
theorem dX1_append_0 : decode cX1_append 0 = .ok (.aload_n 0, 1) := by decide +kernel
theorem dX1_append_1 : decode cX1_append 1 = .ok (.getfield 21, 3) := by decide +kernel
theorem dX1_append_4 : decode cX1_append 4 = .ok (.ifCond .lt 27, 3) := by decide +kernel
theorem dX1_append_7 : decode cX1_append 7 = .ok (.aload_n 0, 1) := by decide +kernel
theorem dX1_append_8 : decode cX1_append 8 = .ok (.getfield 21, 3) := by decide +kernel
theorem dX1_append_11 : decode cX1_append 11 = .ok (.aload_n 0, 1) := by decide +kernel
theorem dX1_append_12 : decode cX1_append 12 = .ok (.getfield 9, 3) := by decide +kernel
theorem dX1_append_15 : decode cX1_append 15 = .ok (.arraylength, 1) := by decide +kernel
theorem dX1_append_16 : decode cX1_append 16 = .ok (.if_icmp .ge 15, 3) := by decide +kernel
theorem dX1_append_19 : decode cX1_append 19 = .ok (.aload_n 0, 1) := by decide +kernel
theorem dX1_append_20 : decode cX1_append 20 = .ok (.getfield 21, 3) := by decide +kernel
theorem dX1_append_23 : decode cX1_append 23 = .ok (.aload_n 0, 1) := by decide +kernel
theorem dX1_append_24 : decode cX1_append 24 = .ok (.getfield 15, 3) := by decide +kernel
theorem dX1_append_27 : decode cX1_append 27 = .ok (.arraylength, 1) := by decide +kernel
theorem dX1_append_28 : decode cX1_append 28 = .ok (.if_icmp .lt 5, 3) := by decide +kernel
theorem dX1_append_31 : decode cX1_append 31 = .ok (.iconst (-1), 1) := by decide +kernel
theorem dX1_append_32 : decode cX1_append 32 = .ok (.ireturn, 1) := by decide +kernel
theorem dX1_append_33 : decode cX1_append 33 = .ok (.aload_n 0, 1) := by decide +kernel
theorem dX1_append_34 : decode cX1_append 34 = .ok (.getfield 9, 3) := by decide +kernel
theorem dX1_append_37 : decode cX1_append 37 = .ok (.aload_n 0, 1) := by decide +kernel
theorem dX1_append_38 : decode cX1_append 38 = .ok (.getfield 21, 3) := by decide +kernel
theorem dX1_append_41 : decode cX1_append 41 = .ok (.iload_n 1, 1) := by decide +kernel
theorem dX1_append_42 : decode cX1_append 42 = .ok (.iastore, 1) := by decide +kernel
theorem dX1_append_43 : decode cX1_append 43 = .ok (.aload_n 0, 1) := by decide +kernel
theorem dX1_append_44 : decode cX1_append 44 = .ok (.getfield 15, 3) := by decide +kernel
theorem dX1_append_47 : decode cX1_append 47 = .ok (.aload_n 0, 1) := by decide +kernel
theorem dX1_append_48 : decode cX1_append 48 = .ok (.getfield 21, 3) := by decide +kernel
theorem dX1_append_51 : decode cX1_append 51 = .ok (.iload_n 2, 1) := by decide +kernel
theorem dX1_append_52 : decode cX1_append 52 = .ok (.iastore, 1) := by decide +kernel
theorem dX1_append_53 : decode cX1_append 53 = .ok (.aload_n 0, 1) := by decide +kernel
theorem dX1_append_54 : decode cX1_append 54 = .ok (.dup, 1) := by decide +kernel
theorem dX1_append_55 : decode cX1_append 55 = .ok (.getfield 21, 3) := by decide +kernel
theorem dX1_append_58 : decode cX1_append 58 = .ok (.dup_x1, 1) := by decide +kernel
theorem dX1_append_59 : decode cX1_append 59 = .ok (.iconst 1, 1) := by decide +kernel
theorem dX1_append_60 : decode cX1_append 60 = .ok (.iadd, 1) := by decide +kernel
theorem dX1_append_61 : decode cX1_append 61 = .ok (.putfield 21, 3) := by decide +kernel
theorem dX1_append_64 : decode cX1_append 64 = .ok (.ireturn, 1) := by decide +kernel
theorem dX1_limitOf_0 : decode cX1_limitOf 0 = .ok (.iload_n 1, 1) := by decide +kernel
theorem dX1_limitOf_1 : decode cX1_limitOf 1 = .ok (.ifCond .lt 29, 3) := by decide +kernel
theorem dX1_limitOf_4 : decode cX1_limitOf 4 = .ok (.iload_n 1, 1) := by decide +kernel
theorem dX1_limitOf_5 : decode cX1_limitOf 5 = .ok (.aload_n 0, 1) := by decide +kernel
theorem dX1_limitOf_6 : decode cX1_limitOf 6 = .ok (.getfield 21, 3) := by decide +kernel
theorem dX1_limitOf_9 : decode cX1_limitOf 9 = .ok (.if_icmp .ge 21, 3) := by decide +kernel
theorem dX1_limitOf_12 : decode cX1_limitOf 12 = .ok (.iload_n 1, 1) := by decide +kernel
theorem dX1_limitOf_13 : decode cX1_limitOf 13 = .ok (.aload_n 0, 1) := by decide +kernel
theorem dX1_limitOf_14 : decode cX1_limitOf 14 = .ok (.getfield 9, 3) := by decide +kernel
theorem dX1_limitOf_17 : decode cX1_limitOf 17 = .ok (.arraylength, 1) := by decide +kernel
theorem dX1_limitOf_18 : decode cX1_limitOf 18 = .ok (.if_icmp .ge 12, 3) := by decide +kernel
theorem dX1_limitOf_21 : decode cX1_limitOf 21 = .ok (.aload_n 0, 1) := by decide +kernel
theorem dX1_limitOf_22 : decode cX1_limitOf 22 = .ok (.getfield 9, 3) := by decide +kernel
theorem dX1_limitOf_25 : decode cX1_limitOf 25 = .ok (.iload_n 1, 1) := by decide +kernel
theorem dX1_limitOf_26 : decode cX1_limitOf 26 = .ok (.iaload, 1) := by decide +kernel
theorem dX1_limitOf_27 : decode cX1_limitOf 27 = .ok (.goto 4, 3) := by decide +kernel
theorem dX1_limitOf_30 : decode cX1_limitOf 30 = .ok (.iconst 0, 1) := by decide +kernel
theorem dX1_limitOf_31 : decode cX1_limitOf 31 = .ok (.ireturn, 1) := by decide +kernel
theorem dX1_feeOf_0 : decode cX1_feeOf 0 = .ok (.iload_n 1, 1) := by decide +kernel
theorem dX1_feeOf_1 : decode cX1_feeOf 1 = .ok (.ifCond .lt 29, 3) := by decide +kernel
theorem dX1_feeOf_4 : decode cX1_feeOf 4 = .ok (.iload_n 1, 1) := by decide +kernel
theorem dX1_feeOf_5 : decode cX1_feeOf 5 = .ok (.aload_n 0, 1) := by decide +kernel
theorem dX1_feeOf_6 : decode cX1_feeOf 6 = .ok (.getfield 21, 3) := by decide +kernel
theorem dX1_feeOf_9 : decode cX1_feeOf 9 = .ok (.if_icmp .ge 21, 3) := by decide +kernel
theorem dX1_feeOf_12 : decode cX1_feeOf 12 = .ok (.iload_n 1, 1) := by decide +kernel
theorem dX1_feeOf_13 : decode cX1_feeOf 13 = .ok (.aload_n 0, 1) := by decide +kernel
theorem dX1_feeOf_14 : decode cX1_feeOf 14 = .ok (.getfield 15, 3) := by decide +kernel
theorem dX1_feeOf_17 : decode cX1_feeOf 17 = .ok (.arraylength, 1) := by decide +kernel
theorem dX1_feeOf_18 : decode cX1_feeOf 18 = .ok (.if_icmp .ge 12, 3) := by decide +kernel
theorem dX1_feeOf_21 : decode cX1_feeOf 21 = .ok (.aload_n 0, 1) := by decide +kernel
theorem dX1_feeOf_22 : decode cX1_feeOf 22 = .ok (.getfield 15, 3) := by decide +kernel
theorem dX1_feeOf_25 : decode cX1_feeOf 25 = .ok (.iload_n 1, 1) := by decide +kernel
theorem dX1_feeOf_26 : decode cX1_feeOf 26 = .ok (.iaload, 1) := by decide +kernel
theorem dX1_feeOf_27 : decode cX1_feeOf 27 = .ok (.goto 4, 3) := by decide +kernel
theorem dX1_feeOf_30 : decode cX1_feeOf 30 = .ok (.iconst 0, 1) := by decide +kernel
theorem dX1_feeOf_31 : decode cX1_feeOf 31 = .ok (.ireturn, 1) := by decide +kernel
theorem dX1_swapLimit_0 : decode cX1_swapLimit 0 = .ok (.aload_n 0, 1) := by decide +kernel
theorem dX1_swapLimit_1 : decode cX1_swapLimit 1 = .ok (.iload_n 1, 1) := by decide +kernel
theorem dX1_swapLimit_2 : decode cX1_swapLimit 2 = .ok (.invokevirtual 25, 3) := by decide +kernel
theorem dX1_swapLimit_5 : decode cX1_swapLimit 5 = .ok (.istore_n 3, 1) := by decide +kernel
theorem dX1_swapLimit_6 : decode cX1_swapLimit 6 = .ok (.iload_n 1, 1) := by decide +kernel
theorem dX1_swapLimit_7 : decode cX1_swapLimit 7 = .ok (.ifCond .lt 27, 3) := by decide +kernel
theorem dX1_swapLimit_10 : decode cX1_swapLimit 10 = .ok (.iload_n 1, 1) := by decide +kernel
theorem dX1_swapLimit_11 : decode cX1_swapLimit 11 = .ok (.aload_n 0, 1) := by decide +kernel
theorem dX1_swapLimit_12 : decode cX1_swapLimit 12 = .ok (.getfield 21, 3) := by decide +kernel
theorem dX1_swapLimit_15 : decode cX1_swapLimit 15 = .ok (.if_icmp .ge 19, 3) := by decide +kernel
theorem dX1_swapLimit_18 : decode cX1_swapLimit 18 = .ok (.iload_n 1, 1) := by decide +kernel
theorem dX1_swapLimit_19 : decode cX1_swapLimit 19 = .ok (.aload_n 0, 1) := by decide +kernel
theorem dX1_swapLimit_20 : decode cX1_swapLimit 20 = .ok (.getfield 9, 3) := by decide +kernel
theorem dX1_swapLimit_23 : decode cX1_swapLimit 23 = .ok (.arraylength, 1) := by decide +kernel
theorem dX1_swapLimit_24 : decode cX1_swapLimit 24 = .ok (.if_icmp .ge 10, 3) := by decide +kernel
theorem dX1_swapLimit_27 : decode cX1_swapLimit 27 = .ok (.aload_n 0, 1) := by decide +kernel
theorem dX1_swapLimit_28 : decode cX1_swapLimit 28 = .ok (.getfield 9, 3) := by decide +kernel
theorem dX1_swapLimit_31 : decode cX1_swapLimit 31 = .ok (.iload_n 1, 1) := by decide +kernel
theorem dX1_swapLimit_32 : decode cX1_swapLimit 32 = .ok (.iload_n 2, 1) := by decide +kernel
theorem dX1_swapLimit_33 : decode cX1_swapLimit 33 = .ok (.iastore, 1) := by decide +kernel
theorem dX1_swapLimit_34 : decode cX1_swapLimit 34 = .ok (.iload_n 3, 1) := by decide +kernel
theorem dX1_swapLimit_35 : decode cX1_swapLimit 35 = .ok (.ireturn, 1) := by decide +kernel
theorem dX1_swapFee_0 : decode cX1_swapFee 0 = .ok (.aload_n 0, 1) := by decide +kernel
theorem dX1_swapFee_1 : decode cX1_swapFee 1 = .ok (.iload_n 1, 1) := by decide +kernel
theorem dX1_swapFee_2 : decode cX1_swapFee 2 = .ok (.invokevirtual 29, 3) := by decide +kernel
theorem dX1_swapFee_5 : decode cX1_swapFee 5 = .ok (.istore_n 3, 1) := by decide +kernel
theorem dX1_swapFee_6 : decode cX1_swapFee 6 = .ok (.iload_n 1, 1) := by decide +kernel
theorem dX1_swapFee_7 : decode cX1_swapFee 7 = .ok (.ifCond .lt 27, 3) := by decide +kernel
theorem dX1_swapFee_10 : decode cX1_swapFee 10 = .ok (.iload_n 1, 1) := by decide +kernel
theorem dX1_swapFee_11 : decode cX1_swapFee 11 = .ok (.aload_n 0, 1) := by decide +kernel
theorem dX1_swapFee_12 : decode cX1_swapFee 12 = .ok (.getfield 21, 3) := by decide +kernel
theorem dX1_swapFee_15 : decode cX1_swapFee 15 = .ok (.if_icmp .ge 19, 3) := by decide +kernel
theorem dX1_swapFee_18 : decode cX1_swapFee 18 = .ok (.iload_n 1, 1) := by decide +kernel
theorem dX1_swapFee_19 : decode cX1_swapFee 19 = .ok (.aload_n 0, 1) := by decide +kernel
theorem dX1_swapFee_20 : decode cX1_swapFee 20 = .ok (.getfield 15, 3) := by decide +kernel
theorem dX1_swapFee_23 : decode cX1_swapFee 23 = .ok (.arraylength, 1) := by decide +kernel
theorem dX1_swapFee_24 : decode cX1_swapFee 24 = .ok (.if_icmp .ge 10, 3) := by decide +kernel
theorem dX1_swapFee_27 : decode cX1_swapFee 27 = .ok (.aload_n 0, 1) := by decide +kernel
theorem dX1_swapFee_28 : decode cX1_swapFee 28 = .ok (.getfield 15, 3) := by decide +kernel
theorem dX1_swapFee_31 : decode cX1_swapFee 31 = .ok (.iload_n 1, 1) := by decide +kernel
theorem dX1_swapFee_32 : decode cX1_swapFee 32 = .ok (.iload_n 2, 1) := by decide +kernel
theorem dX1_swapFee_33 : decode cX1_swapFee 33 = .ok (.iastore, 1) := by decide +kernel
theorem dX1_swapFee_34 : decode cX1_swapFee 34 = .ok (.iload_n 3, 1) := by decide +kernel
theorem dX1_swapFee_35 : decode cX1_swapFee 35 = .ok (.ireturn, 1) := by decide +kernel
theorem dX1_allLimits_0 : decode cX1_allLimits 0 = .ok (.iconst 0, 1) := by decide +kernel
theorem dX1_allLimits_1 : decode cX1_allLimits 1 = .ok (.istore_n 1, 1) := by decide +kernel
theorem dX1_allLimits_2 : decode cX1_allLimits 2 = .ok (.iconst 0, 1) := by decide +kernel
theorem dX1_allLimits_3 : decode cX1_allLimits 3 = .ok (.istore_n 2, 1) := by decide +kernel
theorem dX1_allLimits_4 : decode cX1_allLimits 4 = .ok (.iload_n 2, 1) := by decide +kernel
theorem dX1_allLimits_5 : decode cX1_allLimits 5 = .ok (.aload_n 0, 1) := by decide +kernel
theorem dX1_allLimits_6 : decode cX1_allLimits 6 = .ok (.getfield 21, 3) := by decide +kernel
theorem dX1_allLimits_9 : decode cX1_allLimits 9 = .ok (.if_icmp .ge 17, 3) := by decide +kernel
theorem dX1_allLimits_12 : decode cX1_allLimits 12 = .ok (.iload_n 1, 1) := by decide +kernel
theorem dX1_allLimits_13 : decode cX1_allLimits 13 = .ok (.aload_n 0, 1) := by decide +kernel
theorem dX1_allLimits_14 : decode cX1_allLimits 14 = .ok (.iload_n 2, 1) := by decide +kernel
theorem dX1_allLimits_15 : decode cX1_allLimits 15 = .ok (.invokevirtual 25, 3) := by decide +kernel
theorem dX1_allLimits_18 : decode cX1_allLimits 18 = .ok (.iadd, 1) := by decide +kernel
theorem dX1_allLimits_19 : decode cX1_allLimits 19 = .ok (.istore_n 1, 1) := by decide +kernel
theorem dX1_allLimits_20 : decode cX1_allLimits 20 = .ok (.iinc 2 1, 3) := by decide +kernel
theorem dX1_allLimits_23 : decode cX1_allLimits 23 = .ok (.goto (-19), 3) := by decide +kernel
theorem dX1_allLimits_26 : decode cX1_allLimits 26 = .ok (.iload_n 1, 1) := by decide +kernel
theorem dX1_allLimits_27 : decode cX1_allLimits 27 = .ok (.ireturn, 1) := by decide +kernel
theorem dX1_canDeal_0 : decode cX1_canDeal 0 = .ok (.iload_n 1, 1) := by decide +kernel
theorem dX1_canDeal_1 : decode cX1_canDeal 1 = .ok (.ifCond .ge 5, 3) := by decide +kernel
theorem dX1_canDeal_4 : decode cX1_canDeal 4 = .ok (.iconst 0, 1) := by decide +kernel
theorem dX1_canDeal_5 : decode cX1_canDeal 5 = .ok (.ireturn, 1) := by decide +kernel
theorem dX1_canDeal_6 : decode cX1_canDeal 6 = .ok (.iload_n 1, 1) := by decide +kernel
theorem dX1_canDeal_7 : decode cX1_canDeal 7 = .ok (.istore_n 2, 1) := by decide +kernel
theorem dX1_canDeal_8 : decode cX1_canDeal 8 = .ok (.iconst 0, 1) := by decide +kernel
theorem dX1_canDeal_9 : decode cX1_canDeal 9 = .ok (.istore_n 3, 1) := by decide +kernel
theorem dX1_canDeal_10 : decode cX1_canDeal 10 = .ok (.iload_n 3, 1) := by decide +kernel
theorem dX1_canDeal_11 : decode cX1_canDeal 11 = .ok (.aload_n 0, 1) := by decide +kernel
theorem dX1_canDeal_12 : decode cX1_canDeal 12 = .ok (.getfield 21, 3) := by decide +kernel
theorem dX1_canDeal_15 : decode cX1_canDeal 15 = .ok (.if_icmp .ge 33, 3) := by decide +kernel
theorem dX1_canDeal_18 : decode cX1_canDeal 18 = .ok (.iload_n 2, 1) := by decide +kernel
theorem dX1_canDeal_19 : decode cX1_canDeal 19 = .ok (.bipush 7, 2) := by decide +kernel
theorem dX1_canDeal_21 : decode cX1_canDeal 21 = .ok (.irem, 1) := by decide +kernel
theorem dX1_canDeal_22 : decode cX1_canDeal 22 = .ok (.iconst 3, 1) := by decide +kernel
theorem dX1_canDeal_23 : decode cX1_canDeal 23 = .ok (.isub, 1) := by decide +kernel
theorem dX1_canDeal_24 : decode cX1_canDeal 24 = .ok (.invokestatic 32, 3) := by decide +kernel
theorem dX1_canDeal_27 : decode cX1_canDeal 27 = .ok (.aload_n 0, 1) := by decide +kernel
theorem dX1_canDeal_28 : decode cX1_canDeal 28 = .ok (.iload_n 3, 1) := by decide +kernel
theorem dX1_canDeal_29 : decode cX1_canDeal 29 = .ok (.invokevirtual 25, 3) := by decide +kernel
theorem dX1_canDeal_32 : decode cX1_canDeal 32 = .ok (.if_icmp .le 5, 3) := by decide +kernel
theorem dX1_canDeal_35 : decode cX1_canDeal 35 = .ok (.iconst 0, 1) := by decide +kernel
theorem dX1_canDeal_36 : decode cX1_canDeal 36 = .ok (.ireturn, 1) := by decide +kernel
theorem dX1_canDeal_37 : decode cX1_canDeal 37 = .ok (.iload_n 2, 1) := by decide +kernel
theorem dX1_canDeal_38 : decode cX1_canDeal 38 = .ok (.bipush 7, 2) := by decide +kernel
theorem dX1_canDeal_40 : decode cX1_canDeal 40 = .ok (.idiv, 1) := by decide +kernel
theorem dX1_canDeal_41 : decode cX1_canDeal 41 = .ok (.istore_n 2, 1) := by decide +kernel
theorem dX1_canDeal_42 : decode cX1_canDeal 42 = .ok (.iinc 3 1, 3) := by decide +kernel
theorem dX1_canDeal_45 : decode cX1_canDeal 45 = .ok (.goto (-35), 3) := by decide +kernel
theorem dX1_canDeal_48 : decode cX1_canDeal 48 = .ok (.iload_n 2, 1) := by decide +kernel
theorem dX1_canDeal_49 : decode cX1_canDeal 49 = .ok (.ifCond .ne 7, 3) := by decide +kernel
theorem dX1_canDeal_52 : decode cX1_canDeal 52 = .ok (.iconst 1, 1) := by decide +kernel
theorem dX1_canDeal_53 : decode cX1_canDeal 53 = .ok (.goto 4, 3) := by decide +kernel
theorem dX1_canDeal_56 : decode cX1_canDeal 56 = .ok (.iconst 0, 1) := by decide +kernel
theorem dX1_canDeal_57 : decode cX1_canDeal 57 = .ok (.ireturn, 1) := by decide +kernel
theorem dX1_stepsOf_0 : decode cX1_stepsOf 0 = .ok (.iconst 0, 1) := by decide +kernel
theorem dX1_stepsOf_1 : decode cX1_stepsOf 1 = .ok (.istore_n 2, 1) := by decide +kernel
theorem dX1_stepsOf_2 : decode cX1_stepsOf 2 = .ok (.iconst 0, 1) := by decide +kernel
theorem dX1_stepsOf_3 : decode cX1_stepsOf 3 = .ok (.istore_n 3, 1) := by decide +kernel
theorem dX1_stepsOf_4 : decode cX1_stepsOf 4 = .ok (.iload_n 3, 1) := by decide +kernel
theorem dX1_stepsOf_5 : decode cX1_stepsOf 5 = .ok (.aload_n 0, 1) := by decide +kernel
theorem dX1_stepsOf_6 : decode cX1_stepsOf 6 = .ok (.getfield 21, 3) := by decide +kernel
theorem dX1_stepsOf_9 : decode cX1_stepsOf 9 = .ok (.if_icmp .ge 17, 3) := by decide +kernel
theorem dX1_stepsOf_12 : decode cX1_stepsOf 12 = .ok (.iload_n 2, 1) := by decide +kernel
theorem dX1_stepsOf_13 : decode cX1_stepsOf 13 = .ok (.iload_n 1, 1) := by decide +kernel
theorem dX1_stepsOf_14 : decode cX1_stepsOf 14 = .ok (.iload_n 3, 1) := by decide +kernel
theorem dX1_stepsOf_15 : decode cX1_stepsOf 15 = .ok (.invokestatic 37, 3) := by decide +kernel
theorem dX1_stepsOf_18 : decode cX1_stepsOf 18 = .ok (.iadd, 1) := by decide +kernel
theorem dX1_stepsOf_19 : decode cX1_stepsOf 19 = .ok (.istore_n 2, 1) := by decide +kernel
theorem dX1_stepsOf_20 : decode cX1_stepsOf 20 = .ok (.iinc 3 1, 3) := by decide +kernel
theorem dX1_stepsOf_23 : decode cX1_stepsOf 23 = .ok (.goto (-19), 3) := by decide +kernel
theorem dX1_stepsOf_26 : decode cX1_stepsOf 26 = .ok (.iload_n 2, 1) := by decide +kernel
theorem dX1_stepsOf_27 : decode cX1_stepsOf 27 = .ok (.ireturn, 1) := by decide +kernel
theorem dX1_sizesOf_0 : decode cX1_sizesOf 0 = .ok (.iconst 0, 1) := by decide +kernel
theorem dX1_sizesOf_1 : decode cX1_sizesOf 1 = .ok (.istore_n 2, 1) := by decide +kernel
theorem dX1_sizesOf_2 : decode cX1_sizesOf 2 = .ok (.iconst 0, 1) := by decide +kernel
theorem dX1_sizesOf_3 : decode cX1_sizesOf 3 = .ok (.istore_n 3, 1) := by decide +kernel
theorem dX1_sizesOf_4 : decode cX1_sizesOf 4 = .ok (.iload_n 3, 1) := by decide +kernel
theorem dX1_sizesOf_5 : decode cX1_sizesOf 5 = .ok (.aload_n 0, 1) := by decide +kernel
theorem dX1_sizesOf_6 : decode cX1_sizesOf 6 = .ok (.getfield 21, 3) := by decide +kernel
theorem dX1_sizesOf_9 : decode cX1_sizesOf 9 = .ok (.if_icmp .ge 20, 3) := by decide +kernel
theorem dX1_sizesOf_12 : decode cX1_sizesOf 12 = .ok (.iload_n 2, 1) := by decide +kernel
theorem dX1_sizesOf_13 : decode cX1_sizesOf 13 = .ok (.iload_n 1, 1) := by decide +kernel
theorem dX1_sizesOf_14 : decode cX1_sizesOf 14 = .ok (.iload_n 3, 1) := by decide +kernel
theorem dX1_sizesOf_15 : decode cX1_sizesOf 15 = .ok (.invokestatic 37, 3) := by decide +kernel
theorem dX1_sizesOf_18 : decode cX1_sizesOf 18 = .ok (.invokestatic 32, 3) := by decide +kernel
theorem dX1_sizesOf_21 : decode cX1_sizesOf 21 = .ok (.iadd, 1) := by decide +kernel
theorem dX1_sizesOf_22 : decode cX1_sizesOf 22 = .ok (.istore_n 2, 1) := by decide +kernel
theorem dX1_sizesOf_23 : decode cX1_sizesOf 23 = .ok (.iinc 3 1, 3) := by decide +kernel
theorem dX1_sizesOf_26 : decode cX1_sizesOf 26 = .ok (.goto (-22), 3) := by decide +kernel
theorem dX1_sizesOf_29 : decode cX1_sizesOf 29 = .ok (.iload_n 2, 1) := by decide +kernel
theorem dX1_sizesOf_30 : decode cX1_sizesOf 30 = .ok (.ireturn, 1) := by decide +kernel
theorem dX1_mixedInto_0 : decode cX1_mixedInto 0 = .ok (.lload_n 1, 1) := by decide +kernel
theorem dX1_mixedInto_1 : decode cX1_mixedInto 1 = .ok (.lstore_n 3, 1) := by decide +kernel
theorem dX1_mixedInto_2 : decode cX1_mixedInto 2 = .ok (.iconst 0, 1) := by decide +kernel
theorem dX1_mixedInto_3 : decode cX1_mixedInto 3 = .ok (.istore 5, 2) := by decide +kernel
theorem dX1_mixedInto_5 : decode cX1_mixedInto 5 = .ok (.iload 5, 2) := by decide +kernel
theorem dX1_mixedInto_7 : decode cX1_mixedInto 7 = .ok (.aload_n 0, 1) := by decide +kernel
theorem dX1_mixedInto_8 : decode cX1_mixedInto 8 = .ok (.getfield 21, 3) := by decide +kernel
theorem dX1_mixedInto_11 : decode cX1_mixedInto 11 = .ok (.if_icmp .ge 31, 3) := by decide +kernel
theorem dX1_mixedInto_14 : decode cX1_mixedInto 14 = .ok (.lload_n 3, 1) := by decide +kernel
theorem dX1_mixedInto_15 : decode cX1_mixedInto 15 = .ok (.aload_n 0, 1) := by decide +kernel
theorem dX1_mixedInto_16 : decode cX1_mixedInto 16 = .ok (.iload 5, 2) := by decide +kernel
theorem dX1_mixedInto_18 : decode cX1_mixedInto 18 = .ok (.invokevirtual 25, 3) := by decide +kernel
theorem dX1_mixedInto_21 : decode cX1_mixedInto 21 = .ok (.i2l, 1) := by decide +kernel
theorem dX1_mixedInto_22 : decode cX1_mixedInto 22 = .ok (.invokestatic 41, 3) := by decide +kernel
theorem dX1_mixedInto_25 : decode cX1_mixedInto 25 = .ok (.aload_n 0, 1) := by decide +kernel
theorem dX1_mixedInto_26 : decode cX1_mixedInto 26 = .ok (.iload 5, 2) := by decide +kernel
theorem dX1_mixedInto_28 : decode cX1_mixedInto 28 = .ok (.invokevirtual 29, 3) := by decide +kernel
theorem dX1_mixedInto_31 : decode cX1_mixedInto 31 = .ok (.i2l, 1) := by decide +kernel
theorem dX1_mixedInto_32 : decode cX1_mixedInto 32 = .ok (.invokestatic 41, 3) := by decide +kernel
theorem dX1_mixedInto_35 : decode cX1_mixedInto 35 = .ok (.lstore_n 3, 1) := by decide +kernel
theorem dX1_mixedInto_36 : decode cX1_mixedInto 36 = .ok (.iinc 5 1, 3) := by decide +kernel
theorem dX1_mixedInto_39 : decode cX1_mixedInto 39 = .ok (.goto (-34), 3) := by decide +kernel
theorem dX1_mixedInto_42 : decode cX1_mixedInto 42 = .ok (.lload_n 3, 1) := by decide +kernel
theorem dX1_mixedInto_43 : decode cX1_mixedInto 43 = .ok (.lreturn, 1) := by decide +kernel
theorem dX2_init_0 : decode cX2_init 0 = .ok (.aload_n 0, 1) := by decide +kernel
theorem dX2_init_1 : decode cX2_init 1 = .ok (.invokespecial 3, 3) := by decide +kernel
theorem dX2_init_4 : decode cX2_init 4 = .ok (.aload_n 0, 1) := by decide +kernel
theorem dX2_init_5 : decode cX2_init 5 = .ok (.new 9, 3) := by decide +kernel
theorem dX2_init_8 : decode cX2_init 8 = .ok (.dup, 1) := by decide +kernel
theorem dX2_init_9 : decode cX2_init 9 = .ok (.invokespecial 11, 3) := by decide +kernel
theorem dX2_init_12 : decode cX2_init 12 = .ok (.putfield 12, 3) := by decide +kernel
theorem dX2_init_15 : decode cX2_init 15 = .ok (.aload_n 0, 1) := by decide +kernel
theorem dX2_init_16 : decode cX2_init 16 = .ok (.iconst 4, 1) := by decide +kernel
theorem dX2_init_17 : decode cX2_init 17 = .ok (.newarray .int, 2) := by decide +kernel
theorem dX2_init_19 : decode cX2_init 19 = .ok (.putfield 18, 3) := by decide +kernel
theorem dX2_init_22 : decode cX2_init 22 = .ok (.return_, 1) := by decide +kernel
theorem dX2_begin_0 : decode cX2_begin 0 = .ok (.aload_n 0, 1) := by decide +kernel
theorem dX2_begin_1 : decode cX2_begin 1 = .ok (.aload_n 1, 1) := by decide +kernel
theorem dX2_begin_2 : decode cX2_begin 2 = .ok (.getfield 22, 3) := by decide +kernel
theorem dX2_begin_5 : decode cX2_begin 5 = .ok (.putfield 28, 3) := by decide +kernel
theorem dX2_begin_8 : decode cX2_begin 8 = .ok (.aload_n 0, 1) := by decide +kernel
theorem dX2_begin_9 : decode cX2_begin 9 = .ok (.aload_n 1, 1) := by decide +kernel
theorem dX2_begin_10 : decode cX2_begin 10 = .ok (.getfield 29, 3) := by decide +kernel
theorem dX2_begin_13 : decode cX2_begin 13 = .ok (.putfield 32, 3) := by decide +kernel
theorem dX2_begin_16 : decode cX2_begin 16 = .ok (.aload_n 0, 1) := by decide +kernel
theorem dX2_begin_17 : decode cX2_begin 17 = .ok (.iload_n 2, 1) := by decide +kernel
theorem dX2_begin_18 : decode cX2_begin 18 = .ok (.putfield 33, 3) := by decide +kernel
theorem dX2_begin_21 : decode cX2_begin 21 = .ok (.aload_n 0, 1) := by decide +kernel
theorem dX2_begin_22 : decode cX2_begin 22 = .ok (.iload_n 3, 1) := by decide +kernel
theorem dX2_begin_23 : decode cX2_begin 23 = .ok (.putfield 37, 3) := by decide +kernel
theorem dX2_begin_26 : decode cX2_begin 26 = .ok (.return_, 1) := by decide +kernel
theorem dX2_look_0 : decode cX2_look 0 = .ok (.iconst 0, 1) := by decide +kernel
theorem dX2_look_1 : decode cX2_look 1 = .ok (.istore_n 2, 1) := by decide +kernel
theorem dX2_look_2 : decode cX2_look 2 = .ok (.iconst (-1), 1) := by decide +kernel
theorem dX2_look_3 : decode cX2_look 3 = .ok (.istore_n 3, 1) := by decide +kernel
theorem dX2_look_4 : decode cX2_look 4 = .ok (.lconst 0, 1) := by decide +kernel
theorem dX2_look_5 : decode cX2_look 5 = .ok (.lstore 4, 2) := by decide +kernel
theorem dX2_look_7 : decode cX2_look 7 = .ok (.aload_n 0, 1) := by decide +kernel
theorem dX2_look_8 : decode cX2_look 8 = .ok (.invokevirtual 40, 3) := by decide +kernel
theorem dX2_look_11 : decode cX2_look 11 = .ok (.iconst 0, 1) := by decide +kernel
theorem dX2_look_12 : decode cX2_look 12 = .ok (.istore 6, 2) := by decide +kernel
theorem dX2_look_14 : decode cX2_look 14 = .ok (.iload 6, 2) := by decide +kernel
theorem dX2_look_16 : decode cX2_look 16 = .ok (.sipush 2401, 3) := by decide +kernel
theorem dX2_look_19 : decode cX2_look 19 = .ok (.if_icmp .ge 70, 3) := by decide +kernel
theorem dX2_look_22 : decode cX2_look 22 = .ok (.aload_n 0, 1) := by decide +kernel
theorem dX2_look_23 : decode cX2_look 23 = .ok (.invokevirtual 43, 3) := by decide +kernel
theorem dX2_look_26 : decode cX2_look 26 = .ok (.ifCond .eq 47, 3) := by decide +kernel
theorem dX2_look_29 : decode cX2_look 29 = .ok (.iload_n 1, 1) := by decide +kernel
theorem dX2_look_30 : decode cX2_look 30 = .ok (.bipush 10, 2) := by decide +kernel
theorem dX2_look_32 : decode cX2_look 32 = .ok (.isub, 1) := by decide +kernel
theorem dX2_look_33 : decode cX2_look 33 = .ok (.iload_n 2, 1) := by decide +kernel
theorem dX2_look_34 : decode cX2_look 34 = .ok (.if_icmp .ne 8, 3) := by decide +kernel
theorem dX2_look_37 : decode cX2_look 37 = .ok (.aload_n 0, 1) := by decide +kernel
theorem dX2_look_38 : decode cX2_look 38 = .ok (.invokevirtual 47, 3) := by decide +kernel
theorem dX2_look_41 : decode cX2_look 41 = .ok (.ireturn, 1) := by decide +kernel
theorem dX2_look_42 : decode cX2_look 42 = .ok (.iinc 2 1, 3) := by decide +kernel
theorem dX2_look_45 : decode cX2_look 45 = .ok (.aload_n 0, 1) := by decide +kernel
theorem dX2_look_46 : decode cX2_look 46 = .ok (.invokevirtual 51, 3) := by decide +kernel
theorem dX2_look_49 : decode cX2_look 49 = .ok (.lstore 7, 2) := by decide +kernel
theorem dX2_look_51 : decode cX2_look 51 = .ok (.iload_n 3, 1) := by decide +kernel
theorem dX2_look_52 : decode cX2_look 52 = .ok (.iconst (-1), 1) := by decide +kernel
theorem dX2_look_53 : decode cX2_look 53 = .ok (.if_icmp .eq 11, 3) := by decide +kernel
theorem dX2_look_56 : decode cX2_look 56 = .ok (.lload 7, 2) := by decide +kernel
theorem dX2_look_58 : decode cX2_look 58 = .ok (.lload 4, 2) := by decide +kernel
theorem dX2_look_60 : decode cX2_look 60 = .ok (.lcmp, 1) := by decide +kernel
theorem dX2_look_61 : decode cX2_look 61 = .ok (.ifCond .le 12, 3) := by decide +kernel
theorem dX2_look_64 : decode cX2_look 64 = .ok (.aload_n 0, 1) := by decide +kernel
theorem dX2_look_65 : decode cX2_look 65 = .ok (.invokevirtual 47, 3) := by decide +kernel
theorem dX2_look_68 : decode cX2_look 68 = .ok (.istore_n 3, 1) := by decide +kernel
theorem dX2_look_69 : decode cX2_look 69 = .ok (.lload 7, 2) := by decide +kernel
theorem dX2_look_71 : decode cX2_look 71 = .ok (.lstore 4, 2) := by decide +kernel
theorem dX2_look_73 : decode cX2_look 73 = .ok (.aload_n 0, 1) := by decide +kernel
theorem dX2_look_74 : decode cX2_look 74 = .ok (.invokevirtual 55, 3) := by decide +kernel
theorem dX2_look_77 : decode cX2_look 77 = .ok (.ifCond .ne 6, 3) := by decide +kernel
theorem dX2_look_80 : decode cX2_look 80 = .ok (.goto 9, 3) := by decide +kernel
theorem dX2_look_83 : decode cX2_look 83 = .ok (.iinc 6 1, 3) := by decide +kernel
theorem dX2_look_86 : decode cX2_look 86 = .ok (.goto (-72), 3) := by decide +kernel
theorem dX2_look_89 : decode cX2_look 89 = .ok (.iload_n 1, 1) := by decide +kernel
theorem dX2_look_90 : decode cX2_look 90 = .ok (.ifCond .ne 5, 3) := by decide +kernel
theorem dX2_look_93 : decode cX2_look 93 = .ok (.iload_n 2, 1) := by decide +kernel
theorem dX2_look_94 : decode cX2_look 94 = .ok (.ireturn, 1) := by decide +kernel
theorem dX2_look_95 : decode cX2_look 95 = .ok (.iload_n 1, 1) := by decide +kernel
theorem dX2_look_96 : decode cX2_look 96 = .ok (.iconst 1, 1) := by decide +kernel
theorem dX2_look_97 : decode cX2_look 97 = .ok (.if_icmp .ne 7, 3) := by decide +kernel
theorem dX2_look_100 : decode cX2_look 100 = .ok (.iload_n 3, 1) := by decide +kernel
theorem dX2_look_101 : decode cX2_look 101 = .ok (.goto 4, 3) := by decide +kernel
theorem dX2_look_104 : decode cX2_look 104 = .ok (.iconst (-1), 1) := by decide +kernel
theorem dX2_look_105 : decode cX2_look 105 = .ok (.ireturn, 1) := by decide +kernel
theorem dX2_deal_0 : decode cX2_deal 0 = .ok (.aload_n 0, 1) := by decide +kernel
theorem dX2_deal_1 : decode cX2_deal 1 = .ok (.iconst 0, 1) := by decide +kernel
theorem dX2_deal_2 : decode cX2_deal 2 = .ok (.putfield 58, 3) := by decide +kernel
theorem dX2_deal_5 : decode cX2_deal 5 = .ok (.iconst 0, 1) := by decide +kernel
theorem dX2_deal_6 : decode cX2_deal 6 = .ok (.istore_n 2, 1) := by decide +kernel
theorem dX2_deal_7 : decode cX2_deal 7 = .ok (.iload_n 2, 1) := by decide +kernel
theorem dX2_deal_8 : decode cX2_deal 8 = .ok (.aload_n 0, 1) := by decide +kernel
theorem dX2_deal_9 : decode cX2_deal 9 = .ok (.getfield 18, 3) := by decide +kernel
theorem dX2_deal_12 : decode cX2_deal 12 = .ok (.arraylength, 1) := by decide +kernel
theorem dX2_deal_13 : decode cX2_deal 13 = .ok (.if_icmp .ge 50, 3) := by decide +kernel
theorem dX2_deal_16 : decode cX2_deal 16 = .ok (.aload_n 0, 1) := by decide +kernel
theorem dX2_deal_17 : decode cX2_deal 17 = .ok (.getfield 18, 3) := by decide +kernel
theorem dX2_deal_20 : decode cX2_deal 20 = .ok (.iload_n 2, 1) := by decide +kernel
theorem dX2_deal_21 : decode cX2_deal 21 = .ok (.iload_n 2, 1) := by decide +kernel
theorem dX2_deal_22 : decode cX2_deal 22 = .ok (.aload_n 0, 1) := by decide +kernel
theorem dX2_deal_23 : decode cX2_deal 23 = .ok (.getfield 12, 3) := by decide +kernel
theorem dX2_deal_26 : decode cX2_deal 26 = .ok (.getfield 61, 3) := by decide +kernel
theorem dX2_deal_29 : decode cX2_deal 29 = .ok (.if_icmp .ge 11, 3) := by decide +kernel
theorem dX2_deal_32 : decode cX2_deal 32 = .ok (.iload_n 1, 1) := by decide +kernel
theorem dX2_deal_33 : decode cX2_deal 33 = .ok (.iload_n 2, 1) := by decide +kernel
theorem dX2_deal_34 : decode cX2_deal 34 = .ok (.invokestatic 64, 3) := by decide +kernel
theorem dX2_deal_37 : decode cX2_deal 37 = .ok (.goto 4, 3) := by decide +kernel
theorem dX2_deal_40 : decode cX2_deal 40 = .ok (.iconst 0, 1) := by decide +kernel
theorem dX2_deal_41 : decode cX2_deal 41 = .ok (.iastore, 1) := by decide +kernel
theorem dX2_deal_42 : decode cX2_deal 42 = .ok (.aload_n 0, 1) := by decide +kernel
theorem dX2_deal_43 : decode cX2_deal 43 = .ok (.dup, 1) := by decide +kernel
theorem dX2_deal_44 : decode cX2_deal 44 = .ok (.getfield 58, 3) := by decide +kernel
theorem dX2_deal_47 : decode cX2_deal 47 = .ok (.aload_n 0, 1) := by decide +kernel
theorem dX2_deal_48 : decode cX2_deal 48 = .ok (.getfield 18, 3) := by decide +kernel
theorem dX2_deal_51 : decode cX2_deal 51 = .ok (.iload_n 2, 1) := by decide +kernel
theorem dX2_deal_52 : decode cX2_deal 52 = .ok (.iaload, 1) := by decide +kernel
theorem dX2_deal_53 : decode cX2_deal 53 = .ok (.iadd, 1) := by decide +kernel
theorem dX2_deal_54 : decode cX2_deal 54 = .ok (.putfield 58, 3) := by decide +kernel
theorem dX2_deal_57 : decode cX2_deal 57 = .ok (.iinc 2 1, 3) := by decide +kernel
theorem dX2_deal_60 : decode cX2_deal 60 = .ok (.goto (-53), 3) := by decide +kernel
theorem dX2_deal_63 : decode cX2_deal 63 = .ok (.return_, 1) := by decide +kernel
theorem dX2_madeBy_0 : decode cX2_madeBy 0 = .ok (.aload_n 0, 1) := by decide +kernel
theorem dX2_madeBy_1 : decode cX2_madeBy 1 = .ok (.iload_n 1, 1) := by decide +kernel
theorem dX2_madeBy_2 : decode cX2_madeBy 2 = .ok (.invokevirtual 68, 3) := by decide +kernel
theorem dX2_madeBy_5 : decode cX2_madeBy 5 = .ok (.aload_n 0, 1) := by decide +kernel
theorem dX2_madeBy_6 : decode cX2_madeBy 6 = .ok (.iload_n 2, 1) := by decide +kernel
theorem dX2_madeBy_7 : decode cX2_madeBy 7 = .ok (.iconst 0, 1) := by decide +kernel
theorem dX2_madeBy_8 : decode cX2_madeBy 8 = .ok (.invokevirtual 72, 3) := by decide +kernel
theorem dX2_madeBy_11 : decode cX2_madeBy 11 = .ok (.lreturn, 1) := by decide +kernel
theorem dX2_gain_0 : decode cX2_gain 0 = .ok (.iload_n 1, 1) := by decide +kernel
theorem dX2_gain_1 : decode cX2_gain 1 = .ok (.ifCond .lt 12, 3) := by decide +kernel
theorem dX2_gain_4 : decode cX2_gain 4 = .ok (.iload_n 1, 1) := by decide +kernel
theorem dX2_gain_5 : decode cX2_gain 5 = .ok (.aload_n 0, 1) := by decide +kernel
theorem dX2_gain_6 : decode cX2_gain 6 = .ok (.getfield 18, 3) := by decide +kernel
theorem dX2_gain_9 : decode cX2_gain 9 = .ok (.arraylength, 1) := by decide +kernel
theorem dX2_gain_10 : decode cX2_gain 10 = .ok (.if_icmp .lt 5, 3) := by decide +kernel
theorem dX2_gain_13 : decode cX2_gain 13 = .ok (.lconst 0, 1) := by decide +kernel
theorem dX2_gain_14 : decode cX2_gain 14 = .ok (.lreturn, 1) := by decide +kernel
theorem dX2_gain_15 : decode cX2_gain 15 = .ok (.aload_n 0, 1) := by decide +kernel
theorem dX2_gain_16 : decode cX2_gain 16 = .ok (.getfield 18, 3) := by decide +kernel
theorem dX2_gain_19 : decode cX2_gain 19 = .ok (.iload_n 1, 1) := by decide +kernel
theorem dX2_gain_20 : decode cX2_gain 20 = .ok (.iaload, 1) := by decide +kernel
theorem dX2_gain_21 : decode cX2_gain 21 = .ok (.iload_n 2, 1) := by decide +kernel
theorem dX2_gain_22 : decode cX2_gain 22 = .ok (.iadd, 1) := by decide +kernel
theorem dX2_gain_23 : decode cX2_gain 23 = .ok (.i2l, 1) := by decide +kernel
theorem dX2_gain_24 : decode cX2_gain 24 = .ok (.lstore_n 3, 1) := by decide +kernel
theorem dX2_gain_25 : decode cX2_gain 25 = .ok (.aload_n 0, 1) := by decide +kernel
theorem dX2_gain_26 : decode cX2_gain 26 = .ok (.getfield 28, 3) := by decide +kernel
theorem dX2_gain_29 : decode cX2_gain 29 = .ok (.aload_n 0, 1) := by decide +kernel
theorem dX2_gain_30 : decode cX2_gain 30 = .ok (.getfield 33, 3) := by decide +kernel
theorem dX2_gain_33 : decode cX2_gain 33 = .ok (.i2l, 1) := by decide +kernel
theorem dX2_gain_34 : decode cX2_gain 34 = .ok (.lmul, 1) := by decide +kernel
theorem dX2_gain_35 : decode cX2_gain 35 = .ok (.aload_n 0, 1) := by decide +kernel
theorem dX2_gain_36 : decode cX2_gain 36 = .ok (.getfield 58, 3) := by decide +kernel
theorem dX2_gain_39 : decode cX2_gain 39 = .ok (.iload_n 2, 1) := by decide +kernel
theorem dX2_gain_40 : decode cX2_gain 40 = .ok (.iadd, 1) := by decide +kernel
theorem dX2_gain_41 : decode cX2_gain 41 = .ok (.i2l, 1) := by decide +kernel
theorem dX2_gain_42 : decode cX2_gain 42 = .ok (.lmul, 1) := by decide +kernel
theorem dX2_gain_43 : decode cX2_gain 43 = .ok (.lstore 5, 2) := by decide +kernel
theorem dX2_gain_45 : decode cX2_gain 45 = .ok (.lload_n 3, 1) := by decide +kernel
theorem dX2_gain_46 : decode cX2_gain 46 = .ok (.aload_n 0, 1) := by decide +kernel
theorem dX2_gain_47 : decode cX2_gain 47 = .ok (.getfield 32, 3) := by decide +kernel
theorem dX2_gain_50 : decode cX2_gain 50 = .ok (.lload 5, 2) := by decide +kernel
theorem dX2_gain_52 : decode cX2_gain 52 = .ok (.lsub, 1) := by decide +kernel
theorem dX2_gain_53 : decode cX2_gain 53 = .ok (.lmul, 1) := by decide +kernel
theorem dX2_gain_54 : decode cX2_gain 54 = .ok (.aload_n 0, 1) := by decide +kernel
theorem dX2_gain_55 : decode cX2_gain 55 = .ok (.getfield 28, 3) := by decide +kernel
theorem dX2_gain_58 : decode cX2_gain 58 = .ok (.aload_n 0, 1) := by decide +kernel
theorem dX2_gain_59 : decode cX2_gain 59 = .ok (.getfield 12, 3) := by decide +kernel
theorem dX2_gain_62 : decode cX2_gain 62 = .ok (.iload_n 1, 1) := by decide +kernel
theorem dX2_gain_63 : decode cX2_gain 63 = .ok (.invokevirtual 76, 3) := by decide +kernel
theorem dX2_gain_66 : decode cX2_gain 66 = .ok (.i2l, 1) := by decide +kernel
theorem dX2_gain_67 : decode cX2_gain 67 = .ok (.lmul, 1) := by decide +kernel
theorem dX2_gain_68 : decode cX2_gain 68 = .ok (.lload_n 3, 1) := by decide +kernel
theorem dX2_gain_69 : decode cX2_gain 69 = .ok (.lconst 0, 1) := by decide +kernel
theorem dX2_gain_70 : decode cX2_gain 70 = .ok (.lcmp, 1) := by decide +kernel
theorem dX2_gain_71 : decode cX2_gain 71 = .ok (.ifCond .ge 8, 3) := by decide +kernel
theorem dX2_gain_74 : decode cX2_gain 74 = .ok (.lload_n 3, 1) := by decide +kernel
theorem dX2_gain_75 : decode cX2_gain 75 = .ok (.lneg, 1) := by decide +kernel
theorem dX2_gain_76 : decode cX2_gain 76 = .ok (.goto 4, 3) := by decide +kernel
theorem dX2_gain_79 : decode cX2_gain 79 = .ok (.lload_n 3, 1) := by decide +kernel
theorem dX2_gain_80 : decode cX2_gain 80 = .ok (.lmul, 1) := by decide +kernel
theorem dX2_gain_81 : decode cX2_gain 81 = .ok (.lsub, 1) := by decide +kernel
theorem dX2_gain_82 : decode cX2_gain 82 = .ok (.lreturn, 1) := by decide +kernel
theorem dX2_sellMost_0 : decode cX2_sellMost 0 = .ok (.aload_n 0, 1) := by decide +kernel
theorem dX2_sellMost_1 : decode cX2_sellMost 1 = .ok (.iconst 0, 1) := by decide +kernel
theorem dX2_sellMost_2 : decode cX2_sellMost 2 = .ok (.putfield 58, 3) := by decide +kernel
theorem dX2_sellMost_5 : decode cX2_sellMost 5 = .ok (.iconst 0, 1) := by decide +kernel
theorem dX2_sellMost_6 : decode cX2_sellMost 6 = .ok (.istore_n 1, 1) := by decide +kernel
theorem dX2_sellMost_7 : decode cX2_sellMost 7 = .ok (.iload_n 1, 1) := by decide +kernel
theorem dX2_sellMost_8 : decode cX2_sellMost 8 = .ok (.aload_n 0, 1) := by decide +kernel
theorem dX2_sellMost_9 : decode cX2_sellMost 9 = .ok (.getfield 18, 3) := by decide +kernel
theorem dX2_sellMost_12 : decode cX2_sellMost 12 = .ok (.arraylength, 1) := by decide +kernel
theorem dX2_sellMost_13 : decode cX2_sellMost 13 = .ok (.if_icmp .ge 54, 3) := by decide +kernel
theorem dX2_sellMost_16 : decode cX2_sellMost 16 = .ok (.aload_n 0, 1) := by decide +kernel
theorem dX2_sellMost_17 : decode cX2_sellMost 17 = .ok (.getfield 18, 3) := by decide +kernel
theorem dX2_sellMost_20 : decode cX2_sellMost 20 = .ok (.iload_n 1, 1) := by decide +kernel
theorem dX2_sellMost_21 : decode cX2_sellMost 21 = .ok (.aload_n 0, 1) := by decide +kernel
theorem dX2_sellMost_22 : decode cX2_sellMost 22 = .ok (.getfield 37, 3) := by decide +kernel
theorem dX2_sellMost_25 : decode cX2_sellMost 25 = .ok (.iload_n 1, 1) := by decide +kernel
theorem dX2_sellMost_26 : decode cX2_sellMost 26 = .ok (.invokestatic 80, 3) := by decide +kernel
theorem dX2_sellMost_29 : decode cX2_sellMost 29 = .ok (.ifCond .eq 15, 3) := by decide +kernel
theorem dX2_sellMost_32 : decode cX2_sellMost 32 = .ok (.aload_n 0, 1) := by decide +kernel
theorem dX2_sellMost_33 : decode cX2_sellMost 33 = .ok (.getfield 12, 3) := by decide +kernel
theorem dX2_sellMost_36 : decode cX2_sellMost 36 = .ok (.iload_n 1, 1) := by decide +kernel
theorem dX2_sellMost_37 : decode cX2_sellMost 37 = .ok (.invokevirtual 84, 3) := by decide +kernel
theorem dX2_sellMost_40 : decode cX2_sellMost 40 = .ok (.ineg, 1) := by decide +kernel
theorem dX2_sellMost_41 : decode cX2_sellMost 41 = .ok (.goto 4, 3) := by decide +kernel
theorem dX2_sellMost_44 : decode cX2_sellMost 44 = .ok (.iconst 0, 1) := by decide +kernel
theorem dX2_sellMost_45 : decode cX2_sellMost 45 = .ok (.iastore, 1) := by decide +kernel
theorem dX2_sellMost_46 : decode cX2_sellMost 46 = .ok (.aload_n 0, 1) := by decide +kernel
theorem dX2_sellMost_47 : decode cX2_sellMost 47 = .ok (.dup, 1) := by decide +kernel
theorem dX2_sellMost_48 : decode cX2_sellMost 48 = .ok (.getfield 58, 3) := by decide +kernel
theorem dX2_sellMost_51 : decode cX2_sellMost 51 = .ok (.aload_n 0, 1) := by decide +kernel
theorem dX2_sellMost_52 : decode cX2_sellMost 52 = .ok (.getfield 18, 3) := by decide +kernel
theorem dX2_sellMost_55 : decode cX2_sellMost 55 = .ok (.iload_n 1, 1) := by decide +kernel
theorem dX2_sellMost_56 : decode cX2_sellMost 56 = .ok (.iaload, 1) := by decide +kernel
theorem dX2_sellMost_57 : decode cX2_sellMost 57 = .ok (.iadd, 1) := by decide +kernel
theorem dX2_sellMost_58 : decode cX2_sellMost 58 = .ok (.putfield 58, 3) := by decide +kernel
theorem dX2_sellMost_61 : decode cX2_sellMost 61 = .ok (.iinc 1 1, 3) := by decide +kernel
theorem dX2_sellMost_64 : decode cX2_sellMost 64 = .ok (.goto (-57), 3) := by decide +kernel
theorem dX2_sellMost_67 : decode cX2_sellMost 67 = .ok (.return_, 1) := by decide +kernel
theorem dX2_goOn_0 : decode cX2_goOn 0 = .ok (.iconst 0, 1) := by decide +kernel
theorem dX2_goOn_1 : decode cX2_goOn 1 = .ok (.istore_n 1, 1) := by decide +kernel
theorem dX2_goOn_2 : decode cX2_goOn 2 = .ok (.iload_n 1, 1) := by decide +kernel
theorem dX2_goOn_3 : decode cX2_goOn 3 = .ok (.aload_n 0, 1) := by decide +kernel
theorem dX2_goOn_4 : decode cX2_goOn 4 = .ok (.getfield 18, 3) := by decide +kernel
theorem dX2_goOn_7 : decode cX2_goOn 7 = .ok (.arraylength, 1) := by decide +kernel
theorem dX2_goOn_8 : decode cX2_goOn 8 = .ok (.if_icmp .ge 92, 3) := by decide +kernel
theorem dX2_goOn_11 : decode cX2_goOn 11 = .ok (.aload_n 0, 1) := by decide +kernel
theorem dX2_goOn_12 : decode cX2_goOn 12 = .ok (.getfield 12, 3) := by decide +kernel
theorem dX2_goOn_15 : decode cX2_goOn 15 = .ok (.iload_n 1, 1) := by decide +kernel
theorem dX2_goOn_16 : decode cX2_goOn 16 = .ok (.invokevirtual 84, 3) := by decide +kernel
theorem dX2_goOn_19 : decode cX2_goOn 19 = .ok (.istore_n 2, 1) := by decide +kernel
theorem dX2_goOn_20 : decode cX2_goOn 20 = .ok (.aload_n 0, 1) := by decide +kernel
theorem dX2_goOn_21 : decode cX2_goOn 21 = .ok (.getfield 37, 3) := by decide +kernel
theorem dX2_goOn_24 : decode cX2_goOn 24 = .ok (.iload_n 1, 1) := by decide +kernel
theorem dX2_goOn_25 : decode cX2_goOn 25 = .ok (.invokestatic 80, 3) := by decide +kernel
theorem dX2_goOn_28 : decode cX2_goOn 28 = .ok (.ifCond .eq 35, 3) := by decide +kernel
theorem dX2_goOn_31 : decode cX2_goOn 31 = .ok (.aload_n 0, 1) := by decide +kernel
theorem dX2_goOn_32 : decode cX2_goOn 32 = .ok (.getfield 18, 3) := by decide +kernel
theorem dX2_goOn_35 : decode cX2_goOn 35 = .ok (.iload_n 1, 1) := by decide +kernel
theorem dX2_goOn_36 : decode cX2_goOn 36 = .ok (.iaload, 1) := by decide +kernel
theorem dX2_goOn_37 : decode cX2_goOn 37 = .ok (.iload_n 2, 1) := by decide +kernel
theorem dX2_goOn_38 : decode cX2_goOn 38 = .ok (.if_icmp .ge 25, 3) := by decide +kernel
theorem dX2_goOn_41 : decode cX2_goOn 41 = .ok (.aload_n 0, 1) := by decide +kernel
theorem dX2_goOn_42 : decode cX2_goOn 42 = .ok (.getfield 18, 3) := by decide +kernel
theorem dX2_goOn_45 : decode cX2_goOn 45 = .ok (.iload_n 1, 1) := by decide +kernel
theorem dX2_goOn_46 : decode cX2_goOn 46 = .ok (.dup2, 1) := by decide +kernel
theorem dX2_goOn_47 : decode cX2_goOn 47 = .ok (.iaload, 1) := by decide +kernel
theorem dX2_goOn_48 : decode cX2_goOn 48 = .ok (.iconst 1, 1) := by decide +kernel
theorem dX2_goOn_49 : decode cX2_goOn 49 = .ok (.iadd, 1) := by decide +kernel
theorem dX2_goOn_50 : decode cX2_goOn 50 = .ok (.iastore, 1) := by decide +kernel
theorem dX2_goOn_51 : decode cX2_goOn 51 = .ok (.aload_n 0, 1) := by decide +kernel
theorem dX2_goOn_52 : decode cX2_goOn 52 = .ok (.dup, 1) := by decide +kernel
theorem dX2_goOn_53 : decode cX2_goOn 53 = .ok (.getfield 58, 3) := by decide +kernel
theorem dX2_goOn_56 : decode cX2_goOn 56 = .ok (.iconst 1, 1) := by decide +kernel
theorem dX2_goOn_57 : decode cX2_goOn 57 = .ok (.iadd, 1) := by decide +kernel
theorem dX2_goOn_58 : decode cX2_goOn 58 = .ok (.putfield 58, 3) := by decide +kernel
theorem dX2_goOn_61 : decode cX2_goOn 61 = .ok (.iconst 1, 1) := by decide +kernel
theorem dX2_goOn_62 : decode cX2_goOn 62 = .ok (.ireturn, 1) := by decide +kernel
theorem dX2_goOn_63 : decode cX2_goOn 63 = .ok (.aload_n 0, 1) := by decide +kernel
theorem dX2_goOn_64 : decode cX2_goOn 64 = .ok (.getfield 37, 3) := by decide +kernel
theorem dX2_goOn_67 : decode cX2_goOn 67 = .ok (.iload_n 1, 1) := by decide +kernel
theorem dX2_goOn_68 : decode cX2_goOn 68 = .ok (.invokestatic 80, 3) := by decide +kernel
theorem dX2_goOn_71 : decode cX2_goOn 71 = .ok (.ifCond .eq 23, 3) := by decide +kernel
theorem dX2_goOn_74 : decode cX2_goOn 74 = .ok (.aload_n 0, 1) := by decide +kernel
theorem dX2_goOn_75 : decode cX2_goOn 75 = .ok (.getfield 18, 3) := by decide +kernel
theorem dX2_goOn_78 : decode cX2_goOn 78 = .ok (.iload_n 1, 1) := by decide +kernel
theorem dX2_goOn_79 : decode cX2_goOn 79 = .ok (.iload_n 2, 1) := by decide +kernel
theorem dX2_goOn_80 : decode cX2_goOn 80 = .ok (.ineg, 1) := by decide +kernel
theorem dX2_goOn_81 : decode cX2_goOn 81 = .ok (.iastore, 1) := by decide +kernel
theorem dX2_goOn_82 : decode cX2_goOn 82 = .ok (.aload_n 0, 1) := by decide +kernel
theorem dX2_goOn_83 : decode cX2_goOn 83 = .ok (.dup, 1) := by decide +kernel
theorem dX2_goOn_84 : decode cX2_goOn 84 = .ok (.getfield 58, 3) := by decide +kernel
theorem dX2_goOn_87 : decode cX2_goOn 87 = .ok (.iconst 2, 1) := by decide +kernel
theorem dX2_goOn_88 : decode cX2_goOn 88 = .ok (.iload_n 2, 1) := by decide +kernel
theorem dX2_goOn_89 : decode cX2_goOn 89 = .ok (.imul, 1) := by decide +kernel
theorem dX2_goOn_90 : decode cX2_goOn 90 = .ok (.isub, 1) := by decide +kernel
theorem dX2_goOn_91 : decode cX2_goOn 91 = .ok (.putfield 58, 3) := by decide +kernel
theorem dX2_goOn_94 : decode cX2_goOn 94 = .ok (.iinc 1 1, 3) := by decide +kernel
theorem dX2_goOn_97 : decode cX2_goOn 97 = .ok (.goto (-95), 3) := by decide +kernel
theorem dX2_goOn_100 : decode cX2_goOn 100 = .ok (.iconst 0, 1) := by decide +kernel
theorem dX2_goOn_101 : decode cX2_goOn 101 = .ok (.ireturn, 1) := by decide +kernel
theorem dX2_isAtRest_0 : decode cX2_isAtRest 0 = .ok (.iconst 0, 1) := by decide +kernel
theorem dX2_isAtRest_1 : decode cX2_isAtRest 1 = .ok (.istore_n 1, 1) := by decide +kernel
theorem dX2_isAtRest_2 : decode cX2_isAtRest 2 = .ok (.iload_n 1, 1) := by decide +kernel
theorem dX2_isAtRest_3 : decode cX2_isAtRest 3 = .ok (.aload_n 0, 1) := by decide +kernel
theorem dX2_isAtRest_4 : decode cX2_isAtRest 4 = .ok (.getfield 18, 3) := by decide +kernel
theorem dX2_isAtRest_7 : decode cX2_isAtRest 7 = .ok (.arraylength, 1) := by decide +kernel
theorem dX2_isAtRest_8 : decode cX2_isAtRest 8 = .ok (.if_icmp .ge 105, 3) := by decide +kernel
theorem dX2_isAtRest_11 : decode cX2_isAtRest 11 = .ok (.aload_n 0, 1) := by decide +kernel
theorem dX2_isAtRest_12 : decode cX2_isAtRest 12 = .ok (.getfield 37, 3) := by decide +kernel
theorem dX2_isAtRest_15 : decode cX2_isAtRest 15 = .ok (.iload_n 1, 1) := by decide +kernel
theorem dX2_isAtRest_16 : decode cX2_isAtRest 16 = .ok (.invokestatic 80, 3) := by decide +kernel
theorem dX2_isAtRest_19 : decode cX2_isAtRest 19 = .ok (.ifCond .eq 88, 3) := by decide +kernel
theorem dX2_isAtRest_22 : decode cX2_isAtRest 22 = .ok (.aload_n 0, 1) := by decide +kernel
theorem dX2_isAtRest_23 : decode cX2_isAtRest 23 = .ok (.getfield 12, 3) := by decide +kernel
theorem dX2_isAtRest_26 : decode cX2_isAtRest 26 = .ok (.iload_n 1, 1) := by decide +kernel
theorem dX2_isAtRest_27 : decode cX2_isAtRest 27 = .ok (.invokevirtual 84, 3) := by decide +kernel
theorem dX2_isAtRest_30 : decode cX2_isAtRest 30 = .ok (.istore_n 2, 1) := by decide +kernel
theorem dX2_isAtRest_31 : decode cX2_isAtRest 31 = .ok (.aload_n 0, 1) := by decide +kernel
theorem dX2_isAtRest_32 : decode cX2_isAtRest 32 = .ok (.iload_n 1, 1) := by decide +kernel
theorem dX2_isAtRest_33 : decode cX2_isAtRest 33 = .ok (.iconst 0, 1) := by decide +kernel
theorem dX2_isAtRest_34 : decode cX2_isAtRest 34 = .ok (.invokevirtual 72, 3) := by decide +kernel
theorem dX2_isAtRest_37 : decode cX2_isAtRest 37 = .ok (.lstore_n 3, 1) := by decide +kernel
theorem dX2_isAtRest_38 : decode cX2_isAtRest 38 = .ok (.aload_n 0, 1) := by decide +kernel
theorem dX2_isAtRest_39 : decode cX2_isAtRest 39 = .ok (.getfield 18, 3) := by decide +kernel
theorem dX2_isAtRest_42 : decode cX2_isAtRest 42 = .ok (.iload_n 1, 1) := by decide +kernel
theorem dX2_isAtRest_43 : decode cX2_isAtRest 43 = .ok (.iaload, 1) := by decide +kernel
theorem dX2_isAtRest_44 : decode cX2_isAtRest 44 = .ok (.iload_n 2, 1) := by decide +kernel
theorem dX2_isAtRest_45 : decode cX2_isAtRest 45 = .ok (.if_icmp .ge 18, 3) := by decide +kernel
theorem dX2_isAtRest_48 : decode cX2_isAtRest 48 = .ok (.aload_n 0, 1) := by decide +kernel
theorem dX2_isAtRest_49 : decode cX2_isAtRest 49 = .ok (.iload_n 1, 1) := by decide +kernel
theorem dX2_isAtRest_50 : decode cX2_isAtRest 50 = .ok (.iconst 1, 1) := by decide +kernel
theorem dX2_isAtRest_51 : decode cX2_isAtRest 51 = .ok (.invokevirtual 72, 3) := by decide +kernel
theorem dX2_isAtRest_54 : decode cX2_isAtRest 54 = .ok (.lload_n 3, 1) := by decide +kernel
theorem dX2_isAtRest_55 : decode cX2_isAtRest 55 = .ok (.lcmp, 1) := by decide +kernel
theorem dX2_isAtRest_56 : decode cX2_isAtRest 56 = .ok (.ifCond .le 7, 3) := by decide +kernel
theorem dX2_isAtRest_59 : decode cX2_isAtRest 59 = .ok (.iconst 1, 1) := by decide +kernel
theorem dX2_isAtRest_60 : decode cX2_isAtRest 60 = .ok (.goto 4, 3) := by decide +kernel
theorem dX2_isAtRest_63 : decode cX2_isAtRest 63 = .ok (.iconst 0, 1) := by decide +kernel
theorem dX2_isAtRest_64 : decode cX2_isAtRest 64 = .ok (.istore 5, 2) := by decide +kernel
theorem dX2_isAtRest_66 : decode cX2_isAtRest 66 = .ok (.aload_n 0, 1) := by decide +kernel
theorem dX2_isAtRest_67 : decode cX2_isAtRest 67 = .ok (.getfield 18, 3) := by decide +kernel
theorem dX2_isAtRest_70 : decode cX2_isAtRest 70 = .ok (.iload_n 1, 1) := by decide +kernel
theorem dX2_isAtRest_71 : decode cX2_isAtRest 71 = .ok (.iaload, 1) := by decide +kernel
theorem dX2_isAtRest_72 : decode cX2_isAtRest 72 = .ok (.iload_n 2, 1) := by decide +kernel
theorem dX2_isAtRest_73 : decode cX2_isAtRest 73 = .ok (.ineg, 1) := by decide +kernel
theorem dX2_isAtRest_74 : decode cX2_isAtRest 74 = .ok (.if_icmp .le 18, 3) := by decide +kernel
theorem dX2_isAtRest_77 : decode cX2_isAtRest 77 = .ok (.aload_n 0, 1) := by decide +kernel
theorem dX2_isAtRest_78 : decode cX2_isAtRest 78 = .ok (.iload_n 1, 1) := by decide +kernel
theorem dX2_isAtRest_79 : decode cX2_isAtRest 79 = .ok (.iconst (-1), 1) := by decide +kernel
theorem dX2_isAtRest_80 : decode cX2_isAtRest 80 = .ok (.invokevirtual 72, 3) := by decide +kernel
theorem dX2_isAtRest_83 : decode cX2_isAtRest 83 = .ok (.lload_n 3, 1) := by decide +kernel
theorem dX2_isAtRest_84 : decode cX2_isAtRest 84 = .ok (.lcmp, 1) := by decide +kernel
theorem dX2_isAtRest_85 : decode cX2_isAtRest 85 = .ok (.ifCond .le 7, 3) := by decide +kernel
theorem dX2_isAtRest_88 : decode cX2_isAtRest 88 = .ok (.iconst 1, 1) := by decide +kernel
theorem dX2_isAtRest_89 : decode cX2_isAtRest 89 = .ok (.goto 4, 3) := by decide +kernel
theorem dX2_isAtRest_92 : decode cX2_isAtRest 92 = .ok (.iconst 0, 1) := by decide +kernel
theorem dX2_isAtRest_93 : decode cX2_isAtRest 93 = .ok (.istore 6, 2) := by decide +kernel
theorem dX2_isAtRest_95 : decode cX2_isAtRest 95 = .ok (.iload 5, 2) := by decide +kernel
theorem dX2_isAtRest_97 : decode cX2_isAtRest 97 = .ok (.ifCond .ne 8, 3) := by decide +kernel
theorem dX2_isAtRest_100 : decode cX2_isAtRest 100 = .ok (.iload 6, 2) := by decide +kernel
theorem dX2_isAtRest_102 : decode cX2_isAtRest 102 = .ok (.ifCond .eq 5, 3) := by decide +kernel
theorem dX2_isAtRest_105 : decode cX2_isAtRest 105 = .ok (.iconst 0, 1) := by decide +kernel
theorem dX2_isAtRest_106 : decode cX2_isAtRest 106 = .ok (.ireturn, 1) := by decide +kernel
theorem dX2_isAtRest_107 : decode cX2_isAtRest 107 = .ok (.iinc 1 1, 3) := by decide +kernel
theorem dX2_isAtRest_110 : decode cX2_isAtRest 110 = .ok (.goto (-108), 3) := by decide +kernel
theorem dX2_isAtRest_113 : decode cX2_isAtRest 113 = .ok (.iconst 1, 1) := by decide +kernel
theorem dX2_isAtRest_114 : decode cX2_isAtRest 114 = .ok (.ireturn, 1) := by decide +kernel
theorem dX2_madeTogether_0 : decode cX2_madeTogether 0 = .ok (.lconst 0, 1) := by decide +kernel
theorem dX2_madeTogether_1 : decode cX2_madeTogether 1 = .ok (.lstore_n 1, 1) := by decide +kernel
theorem dX2_madeTogether_2 : decode cX2_madeTogether 2 = .ok (.iconst 0, 1) := by decide +kernel
theorem dX2_madeTogether_3 : decode cX2_madeTogether 3 = .ok (.istore_n 3, 1) := by decide +kernel
theorem dX2_madeTogether_4 : decode cX2_madeTogether 4 = .ok (.iload_n 3, 1) := by decide +kernel
theorem dX2_madeTogether_5 : decode cX2_madeTogether 5 = .ok (.aload_n 0, 1) := by decide +kernel
theorem dX2_madeTogether_6 : decode cX2_madeTogether 6 = .ok (.getfield 18, 3) := by decide +kernel
theorem dX2_madeTogether_9 : decode cX2_madeTogether 9 = .ok (.arraylength, 1) := by decide +kernel
theorem dX2_madeTogether_10 : decode cX2_madeTogether 10 = .ok (.if_icmp .ge 18, 3) := by decide +kernel
theorem dX2_madeTogether_13 : decode cX2_madeTogether 13 = .ok (.lload_n 1, 1) := by decide +kernel
theorem dX2_madeTogether_14 : decode cX2_madeTogether 14 = .ok (.aload_n 0, 1) := by decide +kernel
theorem dX2_madeTogether_15 : decode cX2_madeTogether 15 = .ok (.iload_n 3, 1) := by decide +kernel
theorem dX2_madeTogether_16 : decode cX2_madeTogether 16 = .ok (.iconst 0, 1) := by decide +kernel
theorem dX2_madeTogether_17 : decode cX2_madeTogether 17 = .ok (.invokevirtual 72, 3) := by decide +kernel
theorem dX2_madeTogether_20 : decode cX2_madeTogether 20 = .ok (.ladd, 1) := by decide +kernel
theorem dX2_madeTogether_21 : decode cX2_madeTogether 21 = .ok (.lstore_n 1, 1) := by decide +kernel
theorem dX2_madeTogether_22 : decode cX2_madeTogether 22 = .ok (.iinc 3 1, 3) := by decide +kernel
theorem dX2_madeTogether_25 : decode cX2_madeTogether 25 = .ok (.goto (-21), 3) := by decide +kernel
theorem dX2_madeTogether_28 : decode cX2_madeTogether 28 = .ok (.lload_n 1, 1) := by decide +kernel
theorem dX2_madeTogether_29 : decode cX2_madeTogether 29 = .ok (.lreturn, 1) := by decide +kernel
theorem dX2_number_0 : decode cX2_number 0 = .ok (.iconst 0, 1) := by decide +kernel
theorem dX2_number_1 : decode cX2_number 1 = .ok (.istore_n 1, 1) := by decide +kernel
theorem dX2_number_2 : decode cX2_number 2 = .ok (.iconst 0, 1) := by decide +kernel
theorem dX2_number_3 : decode cX2_number 3 = .ok (.istore_n 2, 1) := by decide +kernel
theorem dX2_number_4 : decode cX2_number 4 = .ok (.iload_n 2, 1) := by decide +kernel
theorem dX2_number_5 : decode cX2_number 5 = .ok (.aload_n 0, 1) := by decide +kernel
theorem dX2_number_6 : decode cX2_number 6 = .ok (.getfield 18, 3) := by decide +kernel
theorem dX2_number_9 : decode cX2_number 9 = .ok (.arraylength, 1) := by decide +kernel
theorem dX2_number_10 : decode cX2_number 10 = .ok (.if_icmp .ge 45, 3) := by decide +kernel
theorem dX2_number_13 : decode cX2_number 13 = .ok (.iload_n 2, 1) := by decide +kernel
theorem dX2_number_14 : decode cX2_number 14 = .ok (.aload_n 0, 1) := by decide +kernel
theorem dX2_number_15 : decode cX2_number 15 = .ok (.getfield 12, 3) := by decide +kernel
theorem dX2_number_18 : decode cX2_number 18 = .ok (.getfield 61, 3) := by decide +kernel
theorem dX2_number_21 : decode cX2_number 21 = .ok (.if_icmp .ge 34, 3) := by decide +kernel
theorem dX2_number_24 : decode cX2_number 24 = .ok (.iload_n 2, 1) := by decide +kernel
theorem dX2_number_25 : decode cX2_number 25 = .ok (.getstatic 87, 3) := by decide +kernel
theorem dX2_number_28 : decode cX2_number 28 = .ok (.arraylength, 1) := by decide +kernel
theorem dX2_number_29 : decode cX2_number 29 = .ok (.if_icmp .ge 26, 3) := by decide +kernel
theorem dX2_number_32 : decode cX2_number 32 = .ok (.iload_n 1, 1) := by decide +kernel
theorem dX2_number_33 : decode cX2_number 33 = .ok (.aload_n 0, 1) := by decide +kernel
theorem dX2_number_34 : decode cX2_number 34 = .ok (.getfield 18, 3) := by decide +kernel
theorem dX2_number_37 : decode cX2_number 37 = .ok (.iload_n 2, 1) := by decide +kernel
theorem dX2_number_38 : decode cX2_number 38 = .ok (.iaload, 1) := by decide +kernel
theorem dX2_number_39 : decode cX2_number 39 = .ok (.iconst 3, 1) := by decide +kernel
theorem dX2_number_40 : decode cX2_number 40 = .ok (.iadd, 1) := by decide +kernel
theorem dX2_number_41 : decode cX2_number 41 = .ok (.getstatic 87, 3) := by decide +kernel
theorem dX2_number_44 : decode cX2_number 44 = .ok (.iload_n 2, 1) := by decide +kernel
theorem dX2_number_45 : decode cX2_number 45 = .ok (.iaload, 1) := by decide +kernel
theorem dX2_number_46 : decode cX2_number 46 = .ok (.imul, 1) := by decide +kernel
theorem dX2_number_47 : decode cX2_number 47 = .ok (.iadd, 1) := by decide +kernel
theorem dX2_number_48 : decode cX2_number 48 = .ok (.istore_n 1, 1) := by decide +kernel
theorem dX2_number_49 : decode cX2_number 49 = .ok (.iinc 2 1, 3) := by decide +kernel
theorem dX2_number_52 : decode cX2_number 52 = .ok (.goto (-48), 3) := by decide +kernel
theorem dX2_number_55 : decode cX2_number 55 = .ok (.iload_n 1, 1) := by decide +kernel
theorem dX2_number_56 : decode cX2_number 56 = .ok (.ireturn, 1) := by decide +kernel
theorem dX3_init_0 : decode cX3_init 0 = .ok (.aload_n 0, 1) := by decide +kernel
theorem dX3_init_1 : decode cX3_init 1 = .ok (.invokespecial 3, 3) := by decide +kernel
theorem dX3_init_4 : decode cX3_init 4 = .ok (.return_, 1) := by decide +kernel
theorem dX3_take_0 : decode cX3_take 0 = .ok (.aload_n 0, 1) := by decide +kernel
theorem dX3_take_1 : decode cX3_take 1 = .ok (.lconst 0, 1) := by decide +kernel
theorem dX3_take_2 : decode cX3_take 2 = .ok (.putfield 9, 3) := by decide +kernel
theorem dX3_take_5 : decode cX3_take 5 = .ok (.aload_n 0, 1) := by decide +kernel
theorem dX3_take_6 : decode cX3_take 6 = .ok (.lconst 0, 1) := by decide +kernel
theorem dX3_take_7 : decode cX3_take 7 = .ok (.putfield 15, 3) := by decide +kernel
theorem dX3_take_10 : decode cX3_take 10 = .ok (.aload_n 0, 1) := by decide +kernel
theorem dX3_take_11 : decode cX3_take 11 = .ok (.lconst 0, 1) := by decide +kernel
theorem dX3_take_12 : decode cX3_take 12 = .ok (.putfield 18, 3) := by decide +kernel
theorem dX3_take_15 : decode cX3_take 15 = .ok (.aload_n 2, 1) := by decide +kernel
theorem dX3_take_16 : decode cX3_take 16 = .ok (.ifnonnull 4, 3) := by decide +kernel
theorem dX3_take_19 : decode cX3_take 19 = .ok (.return_, 1) := by decide +kernel
theorem dX3_take_20 : decode cX3_take 20 = .ok (.iconst 0, 1) := by decide +kernel
theorem dX3_take_21 : decode cX3_take 21 = .ok (.istore 4, 2) := by decide +kernel
theorem dX3_take_23 : decode cX3_take 23 = .ok (.iload 4, 2) := by decide +kernel
theorem dX3_take_25 : decode cX3_take 25 = .ok (.aload_n 1, 1) := by decide +kernel
theorem dX3_take_26 : decode cX3_take 26 = .ok (.getfield 21, 3) := by decide +kernel
theorem dX3_take_29 : decode cX3_take 29 = .ok (.if_icmp .ge 61, 3) := by decide +kernel
theorem dX3_take_32 : decode cX3_take 32 = .ok (.aload_n 1, 1) := by decide +kernel
theorem dX3_take_33 : decode cX3_take 33 = .ok (.iload 4, 2) := by decide +kernel
theorem dX3_take_35 : decode cX3_take 35 = .ok (.invokevirtual 27, 3) := by decide +kernel
theorem dX3_take_38 : decode cX3_take 38 = .ok (.i2l, 1) := by decide +kernel
theorem dX3_take_39 : decode cX3_take 39 = .ok (.aload_n 2, 1) := by decide +kernel
theorem dX3_take_40 : decode cX3_take 40 = .ok (.iload 4, 2) := by decide +kernel
theorem dX3_take_42 : decode cX3_take 42 = .ok (.iload_n 3, 1) := by decide +kernel
theorem dX3_take_43 : decode cX3_take 43 = .ok (.aload_n 1, 1) := by decide +kernel
theorem dX3_take_44 : decode cX3_take 44 = .ok (.getfield 21, 3) := by decide +kernel
theorem dX3_take_47 : decode cX3_take 47 = .ok (.invokevirtual 31, 3) := by decide +kernel
theorem dX3_take_50 : decode cX3_take 50 = .ok (.i2l, 1) := by decide +kernel
theorem dX3_take_51 : decode cX3_take 51 = .ok (.lmul, 1) := by decide +kernel
theorem dX3_take_52 : decode cX3_take 52 = .ok (.lstore 5, 2) := by decide +kernel
theorem dX3_take_54 : decode cX3_take 54 = .ok (.aload_n 0, 1) := by decide +kernel
theorem dX3_take_55 : decode cX3_take 55 = .ok (.dup, 1) := by decide +kernel
theorem dX3_take_56 : decode cX3_take 56 = .ok (.getfield 9, 3) := by decide +kernel
theorem dX3_take_59 : decode cX3_take 59 = .ok (.lload 5, 2) := by decide +kernel
theorem dX3_take_61 : decode cX3_take 61 = .ok (.ladd, 1) := by decide +kernel
theorem dX3_take_62 : decode cX3_take 62 = .ok (.putfield 9, 3) := by decide +kernel
theorem dX3_take_65 : decode cX3_take 65 = .ok (.aload_n 0, 1) := by decide +kernel
theorem dX3_take_66 : decode cX3_take 66 = .ok (.dup, 1) := by decide +kernel
theorem dX3_take_67 : decode cX3_take 67 = .ok (.getfield 15, 3) := by decide +kernel
theorem dX3_take_70 : decode cX3_take 70 = .ok (.lload 5, 2) := by decide +kernel
theorem dX3_take_72 : decode cX3_take 72 = .ok (.aload_n 1, 1) := by decide +kernel
theorem dX3_take_73 : decode cX3_take 73 = .ok (.iload 4, 2) := by decide +kernel
theorem dX3_take_75 : decode cX3_take 75 = .ok (.invokevirtual 37, 3) := by decide +kernel
theorem dX3_take_78 : decode cX3_take 78 = .ok (.i2l, 1) := by decide +kernel
theorem dX3_take_79 : decode cX3_take 79 = .ok (.lmul, 1) := by decide +kernel
theorem dX3_take_80 : decode cX3_take 80 = .ok (.ladd, 1) := by decide +kernel
theorem dX3_take_81 : decode cX3_take 81 = .ok (.putfield 15, 3) := by decide +kernel
theorem dX3_take_84 : decode cX3_take 84 = .ok (.iinc 4 1, 3) := by decide +kernel
theorem dX3_take_87 : decode cX3_take 87 = .ok (.goto (-64), 3) := by decide +kernel
theorem dX3_take_90 : decode cX3_take 90 = .ok (.aload_n 0, 1) := by decide +kernel
theorem dX3_take_91 : decode cX3_take 91 = .ok (.aload_n 1, 1) := by decide +kernel
theorem dX3_take_92 : decode cX3_take 92 = .ok (.aload_n 2, 1) := by decide +kernel
theorem dX3_take_93 : decode cX3_take 93 = .ok (.invokevirtual 40, 3) := by decide +kernel
theorem dX3_take_96 : decode cX3_take 96 = .ok (.return_, 1) := by decide +kernel
theorem dX3_takeCase_0 : decode cX3_takeCase 0 = .ok (.aload_n 0, 1) := by decide +kernel
theorem dX3_takeCase_1 : decode cX3_takeCase 1 = .ok (.ldc2_w 44, 3) := by decide +kernel
theorem dX3_takeCase_4 : decode cX3_takeCase 4 = .ok (.putfield 9, 3) := by decide +kernel
theorem dX3_takeCase_7 : decode cX3_takeCase 7 = .ok (.aload_n 0, 1) := by decide +kernel
theorem dX3_takeCase_8 : decode cX3_takeCase 8 = .ok (.aload_n 0, 1) := by decide +kernel
theorem dX3_takeCase_9 : decode cX3_takeCase 9 = .ok (.getfield 9, 3) := by decide +kernel
theorem dX3_takeCase_12 : decode cX3_takeCase 12 = .ok (.aload_n 1, 1) := by decide +kernel
theorem dX3_takeCase_13 : decode cX3_takeCase 13 = .ok (.iload_n 3, 1) := by decide +kernel
theorem dX3_takeCase_14 : decode cX3_takeCase 14 = .ok (.invokevirtual 37, 3) := by decide +kernel
theorem dX3_takeCase_17 : decode cX3_takeCase 17 = .ok (.i2l, 1) := by decide +kernel
theorem dX3_takeCase_18 : decode cX3_takeCase 18 = .ok (.lmul, 1) := by decide +kernel
theorem dX3_takeCase_19 : decode cX3_takeCase 19 = .ok (.putfield 15, 3) := by decide +kernel
theorem dX3_takeCase_22 : decode cX3_takeCase 22 = .ok (.aload_n 0, 1) := by decide +kernel
theorem dX3_takeCase_23 : decode cX3_takeCase 23 = .ok (.lconst 0, 1) := by decide +kernel
theorem dX3_takeCase_24 : decode cX3_takeCase 24 = .ok (.putfield 18, 3) := by decide +kernel
theorem dX3_takeCase_27 : decode cX3_takeCase 27 = .ok (.aload_n 2, 1) := by decide +kernel
theorem dX3_takeCase_28 : decode cX3_takeCase 28 = .ok (.ifnull 9, 3) := by decide +kernel
theorem dX3_takeCase_31 : decode cX3_takeCase 31 = .ok (.aload_n 0, 1) := by decide +kernel
theorem dX3_takeCase_32 : decode cX3_takeCase 32 = .ok (.aload_n 1, 1) := by decide +kernel
theorem dX3_takeCase_33 : decode cX3_takeCase 33 = .ok (.aload_n 2, 1) := by decide +kernel
theorem dX3_takeCase_34 : decode cX3_takeCase 34 = .ok (.invokevirtual 40, 3) := by decide +kernel
theorem dX3_takeCase_37 : decode cX3_takeCase 37 = .ok (.return_, 1) := by decide +kernel
theorem dX3_narrow_0 : decode cX3_narrow 0 = .ok (.aload_n 0, 1) := by decide +kernel
theorem dX3_narrow_1 : decode cX3_narrow 1 = .ok (.aload_n 0, 1) := by decide +kernel
theorem dX3_narrow_2 : decode cX3_narrow 2 = .ok (.getfield 15, 3) := by decide +kernel
theorem dX3_narrow_5 : decode cX3_narrow 5 = .ok (.aload_n 0, 1) := by decide +kernel
theorem dX3_narrow_6 : decode cX3_narrow 6 = .ok (.getfield 9, 3) := by decide +kernel
theorem dX3_narrow_9 : decode cX3_narrow 9 = .ok (.aload_n 1, 1) := by decide +kernel
theorem dX3_narrow_10 : decode cX3_narrow 10 = .ok (.getfield 46, 3) := by decide +kernel
theorem dX3_narrow_13 : decode cX3_narrow 13 = .ok (.i2l, 1) := by decide +kernel
theorem dX3_narrow_14 : decode cX3_narrow 14 = .ok (.lmul, 1) := by decide +kernel
theorem dX3_narrow_15 : decode cX3_narrow 15 = .ok (.lsub, 1) := by decide +kernel
theorem dX3_narrow_16 : decode cX3_narrow 16 = .ok (.bipush 100, 2) := by decide +kernel
theorem dX3_narrow_18 : decode cX3_narrow 18 = .ok (.aload_n 2, 1) := by decide +kernel
theorem dX3_narrow_19 : decode cX3_narrow 19 = .ok (.invokevirtual 49, 3) := by decide +kernel
theorem dX3_narrow_22 : decode cX3_narrow 22 = .ok (.isub, 1) := by decide +kernel
theorem dX3_narrow_23 : decode cX3_narrow 23 = .ok (.i2l, 1) := by decide +kernel
theorem dX3_narrow_24 : decode cX3_narrow 24 = .ok (.lmul, 1) := by decide +kernel
theorem dX3_narrow_25 : decode cX3_narrow 25 = .ok (.ldc2_w 44, 3) := by decide +kernel
theorem dX3_narrow_28 : decode cX3_narrow 28 = .ok (.ldiv, 1) := by decide +kernel
theorem dX3_narrow_29 : decode cX3_narrow 29 = .ok (.putfield 18, 3) := by decide +kernel
theorem dX3_narrow_32 : decode cX3_narrow 32 = .ok (.return_, 1) := by decide +kernel
theorem dX3_isNever_0 : decode cX3_isNever 0 = .ok (.aload_n 0, 1) := by decide +kernel
theorem dX3_isNever_1 : decode cX3_isNever 1 = .ok (.getfield 9, 3) := by decide +kernel
theorem dX3_isNever_4 : decode cX3_isNever 4 = .ok (.lconst 0, 1) := by decide +kernel
theorem dX3_isNever_5 : decode cX3_isNever 5 = .ok (.lcmp, 1) := by decide +kernel
theorem dX3_isNever_6 : decode cX3_isNever 6 = .ok (.ifCond .ne 7, 3) := by decide +kernel
theorem dX3_isNever_9 : decode cX3_isNever 9 = .ok (.iconst 1, 1) := by decide +kernel
theorem dX3_isNever_10 : decode cX3_isNever 10 = .ok (.goto 4, 3) := by decide +kernel
theorem dX3_isNever_13 : decode cX3_isNever 13 = .ok (.iconst 0, 1) := by decide +kernel
theorem dX3_isNever_14 : decode cX3_isNever 14 = .ok (.ireturn, 1) := by decide +kernel
theorem dX4_init_0 : decode cX4_init 0 = .ok (.aload_n 0, 1) := by decide +kernel
theorem dX4_init_1 : decode cX4_init 1 = .ok (.iload_n 1, 1) := by decide +kernel
theorem dX4_init_2 : decode cX4_init 2 = .ok (.iload_n 2, 1) := by decide +kernel
theorem dX4_init_3 : decode cX4_init 3 = .ok (.invokespecial 1, 3) := by decide +kernel
theorem dX4_init_6 : decode cX4_init 6 = .ok (.return_, 1) := by decide +kernel
theorem dX4_nearer_0 : decode cX4_nearer 0 = .ok (.aload_n 0, 1) := by decide +kernel
theorem dX4_nearer_1 : decode cX4_nearer 1 = .ok (.getfield 7, 3) := by decide +kernel
theorem dX4_nearer_4 : decode cX4_nearer 4 = .ok (.ireturn, 1) := by decide +kernel
theorem dX5_init_0 : decode cX5_init 0 = .ok (.aload_n 0, 1) := by decide +kernel
theorem dX5_init_1 : decode cX5_init 1 = .ok (.invokespecial 3, 3) := by decide +kernel
theorem dX5_init_4 : decode cX5_init 4 = .ok (.aload_n 0, 1) := by decide +kernel
theorem dX5_init_5 : decode cX5_init 5 = .ok (.iconst 4, 1) := by decide +kernel
theorem dX5_init_6 : decode cX5_init 6 = .ok (.newarray .int, 2) := by decide +kernel
theorem dX5_init_8 : decode cX5_init 8 = .ok (.putfield 9, 3) := by decide +kernel
theorem dX5_init_11 : decode cX5_init 11 = .ok (.aload_n 0, 1) := by decide +kernel
theorem dX5_init_12 : decode cX5_init 12 = .ok (.iconst 4, 1) := by decide +kernel
theorem dX5_init_13 : decode cX5_init 13 = .ok (.newarray .int, 2) := by decide +kernel
theorem dX5_init_15 : decode cX5_init 15 = .ok (.putfield 15, 3) := by decide +kernel
theorem dX5_init_18 : decode cX5_init 18 = .ok (.return_, 1) := by decide +kernel
theorem dX5_append_0 : decode cX5_append 0 = .ok (.aload_n 0, 1) := by decide +kernel
theorem dX5_append_1 : decode cX5_append 1 = .ok (.getfield 18, 3) := by decide +kernel
theorem dX5_append_4 : decode cX5_append 4 = .ok (.ifCond .lt 27, 3) := by decide +kernel
theorem dX5_append_7 : decode cX5_append 7 = .ok (.aload_n 0, 1) := by decide +kernel
theorem dX5_append_8 : decode cX5_append 8 = .ok (.getfield 18, 3) := by decide +kernel
theorem dX5_append_11 : decode cX5_append 11 = .ok (.aload_n 0, 1) := by decide +kernel
theorem dX5_append_12 : decode cX5_append 12 = .ok (.getfield 9, 3) := by decide +kernel
theorem dX5_append_15 : decode cX5_append 15 = .ok (.arraylength, 1) := by decide +kernel
theorem dX5_append_16 : decode cX5_append 16 = .ok (.if_icmp .ge 15, 3) := by decide +kernel
theorem dX5_append_19 : decode cX5_append 19 = .ok (.aload_n 0, 1) := by decide +kernel
theorem dX5_append_20 : decode cX5_append 20 = .ok (.getfield 18, 3) := by decide +kernel
theorem dX5_append_23 : decode cX5_append 23 = .ok (.aload_n 0, 1) := by decide +kernel
theorem dX5_append_24 : decode cX5_append 24 = .ok (.getfield 15, 3) := by decide +kernel
theorem dX5_append_27 : decode cX5_append 27 = .ok (.arraylength, 1) := by decide +kernel
theorem dX5_append_28 : decode cX5_append 28 = .ok (.if_icmp .lt 5, 3) := by decide +kernel
theorem dX5_append_31 : decode cX5_append 31 = .ok (.iconst 0, 1) := by decide +kernel
theorem dX5_append_32 : decode cX5_append 32 = .ok (.ireturn, 1) := by decide +kernel
theorem dX5_append_33 : decode cX5_append 33 = .ok (.aload_n 0, 1) := by decide +kernel
theorem dX5_append_34 : decode cX5_append 34 = .ok (.getfield 9, 3) := by decide +kernel
theorem dX5_append_37 : decode cX5_append 37 = .ok (.aload_n 0, 1) := by decide +kernel
theorem dX5_append_38 : decode cX5_append 38 = .ok (.getfield 18, 3) := by decide +kernel
theorem dX5_append_41 : decode cX5_append 41 = .ok (.iload_n 1, 1) := by decide +kernel
theorem dX5_append_42 : decode cX5_append 42 = .ok (.iastore, 1) := by decide +kernel
theorem dX5_append_43 : decode cX5_append 43 = .ok (.aload_n 0, 1) := by decide +kernel
theorem dX5_append_44 : decode cX5_append 44 = .ok (.getfield 15, 3) := by decide +kernel
theorem dX5_append_47 : decode cX5_append 47 = .ok (.aload_n 0, 1) := by decide +kernel
theorem dX5_append_48 : decode cX5_append 48 = .ok (.getfield 18, 3) := by decide +kernel
theorem dX5_append_51 : decode cX5_append 51 = .ok (.iload_n 2, 1) := by decide +kernel
theorem dX5_append_52 : decode cX5_append 52 = .ok (.iastore, 1) := by decide +kernel
theorem dX5_append_53 : decode cX5_append 53 = .ok (.aload_n 0, 1) := by decide +kernel
theorem dX5_append_54 : decode cX5_append 54 = .ok (.dup, 1) := by decide +kernel
theorem dX5_append_55 : decode cX5_append 55 = .ok (.getfield 22, 3) := by decide +kernel
theorem dX5_append_58 : decode cX5_append 58 = .ok (.iload_n 1, 1) := by decide +kernel
theorem dX5_append_59 : decode cX5_append 59 = .ok (.iadd, 1) := by decide +kernel
theorem dX5_append_60 : decode cX5_append 60 = .ok (.putfield 22, 3) := by decide +kernel
theorem dX5_append_63 : decode cX5_append 63 = .ok (.aload_n 0, 1) := by decide +kernel
theorem dX5_append_64 : decode cX5_append 64 = .ok (.dup, 1) := by decide +kernel
theorem dX5_append_65 : decode cX5_append 65 = .ok (.getfield 18, 3) := by decide +kernel
theorem dX5_append_68 : decode cX5_append 68 = .ok (.iconst 1, 1) := by decide +kernel
theorem dX5_append_69 : decode cX5_append 69 = .ok (.iadd, 1) := by decide +kernel
theorem dX5_append_70 : decode cX5_append 70 = .ok (.putfield 18, 3) := by decide +kernel
theorem dX5_append_73 : decode cX5_append 73 = .ok (.iconst 1, 1) := by decide +kernel
theorem dX5_append_74 : decode cX5_append 74 = .ok (.ireturn, 1) := by decide +kernel
theorem dX5_weightOf_0 : decode cX5_weightOf 0 = .ok (.iload_n 1, 1) := by decide +kernel
theorem dX5_weightOf_1 : decode cX5_weightOf 1 = .ok (.ifCond .lt 29, 3) := by decide +kernel
theorem dX5_weightOf_4 : decode cX5_weightOf 4 = .ok (.iload_n 1, 1) := by decide +kernel
theorem dX5_weightOf_5 : decode cX5_weightOf 5 = .ok (.aload_n 0, 1) := by decide +kernel
theorem dX5_weightOf_6 : decode cX5_weightOf 6 = .ok (.getfield 18, 3) := by decide +kernel
theorem dX5_weightOf_9 : decode cX5_weightOf 9 = .ok (.if_icmp .ge 21, 3) := by decide +kernel
theorem dX5_weightOf_12 : decode cX5_weightOf 12 = .ok (.iload_n 1, 1) := by decide +kernel
theorem dX5_weightOf_13 : decode cX5_weightOf 13 = .ok (.aload_n 0, 1) := by decide +kernel
theorem dX5_weightOf_14 : decode cX5_weightOf 14 = .ok (.getfield 9, 3) := by decide +kernel
theorem dX5_weightOf_17 : decode cX5_weightOf 17 = .ok (.arraylength, 1) := by decide +kernel
theorem dX5_weightOf_18 : decode cX5_weightOf 18 = .ok (.if_icmp .ge 12, 3) := by decide +kernel
theorem dX5_weightOf_21 : decode cX5_weightOf 21 = .ok (.aload_n 0, 1) := by decide +kernel
theorem dX5_weightOf_22 : decode cX5_weightOf 22 = .ok (.getfield 9, 3) := by decide +kernel
theorem dX5_weightOf_25 : decode cX5_weightOf 25 = .ok (.iload_n 1, 1) := by decide +kernel
theorem dX5_weightOf_26 : decode cX5_weightOf 26 = .ok (.iaload, 1) := by decide +kernel
theorem dX5_weightOf_27 : decode cX5_weightOf 27 = .ok (.goto 4, 3) := by decide +kernel
theorem dX5_weightOf_30 : decode cX5_weightOf 30 = .ok (.iconst 0, 1) := by decide +kernel
theorem dX5_weightOf_31 : decode cX5_weightOf 31 = .ok (.ireturn, 1) := by decide +kernel
theorem dX5_valueOf_0 : decode cX5_valueOf 0 = .ok (.iload_n 1, 1) := by decide +kernel
theorem dX5_valueOf_1 : decode cX5_valueOf 1 = .ok (.ifCond .lt 29, 3) := by decide +kernel
theorem dX5_valueOf_4 : decode cX5_valueOf 4 = .ok (.iload_n 1, 1) := by decide +kernel
theorem dX5_valueOf_5 : decode cX5_valueOf 5 = .ok (.aload_n 0, 1) := by decide +kernel
theorem dX5_valueOf_6 : decode cX5_valueOf 6 = .ok (.getfield 18, 3) := by decide +kernel
theorem dX5_valueOf_9 : decode cX5_valueOf 9 = .ok (.if_icmp .ge 21, 3) := by decide +kernel
theorem dX5_valueOf_12 : decode cX5_valueOf 12 = .ok (.iload_n 1, 1) := by decide +kernel
theorem dX5_valueOf_13 : decode cX5_valueOf 13 = .ok (.aload_n 0, 1) := by decide +kernel
theorem dX5_valueOf_14 : decode cX5_valueOf 14 = .ok (.getfield 15, 3) := by decide +kernel
theorem dX5_valueOf_17 : decode cX5_valueOf 17 = .ok (.arraylength, 1) := by decide +kernel
theorem dX5_valueOf_18 : decode cX5_valueOf 18 = .ok (.if_icmp .ge 12, 3) := by decide +kernel
theorem dX5_valueOf_21 : decode cX5_valueOf 21 = .ok (.aload_n 0, 1) := by decide +kernel
theorem dX5_valueOf_22 : decode cX5_valueOf 22 = .ok (.getfield 15, 3) := by decide +kernel
theorem dX5_valueOf_25 : decode cX5_valueOf 25 = .ok (.iload_n 1, 1) := by decide +kernel
theorem dX5_valueOf_26 : decode cX5_valueOf 26 = .ok (.iaload, 1) := by decide +kernel
theorem dX5_valueOf_27 : decode cX5_valueOf 27 = .ok (.goto 4, 3) := by decide +kernel
theorem dX5_valueOf_30 : decode cX5_valueOf 30 = .ok (.iconst 0, 1) := by decide +kernel
theorem dX5_valueOf_31 : decode cX5_valueOf 31 = .ok (.ireturn, 1) := by decide +kernel
theorem dX5_wholeWeight_0 : decode cX5_wholeWeight 0 = .ok (.aload_n 0, 1) := by decide +kernel
theorem dX5_wholeWeight_1 : decode cX5_wholeWeight 1 = .ok (.getfield 22, 3) := by decide +kernel
theorem dX5_wholeWeight_4 : decode cX5_wholeWeight 4 = .ok (.i2l, 1) := by decide +kernel
theorem dX5_wholeWeight_5 : decode cX5_wholeWeight 5 = .ok (.aload_n 0, 1) := by decide +kernel
theorem dX5_wholeWeight_6 : decode cX5_wholeWeight 6 = .ok (.getfield 18, 3) := by decide +kernel
theorem dX5_wholeWeight_9 : decode cX5_wholeWeight 9 = .ok (.invokestatic 25, 3) := by decide +kernel
theorem dX5_wholeWeight_12 : decode cX5_wholeWeight 12 = .ok (.i2l, 1) := by decide +kernel
theorem dX5_wholeWeight_13 : decode cX5_wholeWeight 13 = .ok (.lmul, 1) := by decide +kernel
theorem dX5_wholeWeight_14 : decode cX5_wholeWeight 14 = .ok (.lreturn, 1) := by decide +kernel
theorem dX5_caseAt_0 : decode cX5_caseAt 0 = .ok (.iconst 0, 1) := by decide +kernel
theorem dX5_caseAt_1 : decode cX5_caseAt 1 = .ok (.istore_n 2, 1) := by decide +kernel
theorem dX5_caseAt_2 : decode cX5_caseAt 2 = .ok (.iconst 0, 1) := by decide +kernel
theorem dX5_caseAt_3 : decode cX5_caseAt 3 = .ok (.istore_n 3, 1) := by decide +kernel
theorem dX5_caseAt_4 : decode cX5_caseAt 4 = .ok (.iload_n 3, 1) := by decide +kernel
theorem dX5_caseAt_5 : decode cX5_caseAt 5 = .ok (.aload_n 0, 1) := by decide +kernel
theorem dX5_caseAt_6 : decode cX5_caseAt 6 = .ok (.getfield 18, 3) := by decide +kernel
theorem dX5_caseAt_9 : decode cX5_caseAt 9 = .ok (.if_icmp .ge 24, 3) := by decide +kernel
theorem dX5_caseAt_12 : decode cX5_caseAt 12 = .ok (.iload_n 2, 1) := by decide +kernel
theorem dX5_caseAt_13 : decode cX5_caseAt 13 = .ok (.aload_n 0, 1) := by decide +kernel
theorem dX5_caseAt_14 : decode cX5_caseAt 14 = .ok (.iload_n 3, 1) := by decide +kernel
theorem dX5_caseAt_15 : decode cX5_caseAt 15 = .ok (.invokevirtual 31, 3) := by decide +kernel
theorem dX5_caseAt_18 : decode cX5_caseAt 18 = .ok (.iadd, 1) := by decide +kernel
theorem dX5_caseAt_19 : decode cX5_caseAt 19 = .ok (.istore_n 2, 1) := by decide +kernel
theorem dX5_caseAt_20 : decode cX5_caseAt 20 = .ok (.iload_n 1, 1) := by decide +kernel
theorem dX5_caseAt_21 : decode cX5_caseAt 21 = .ok (.iload_n 2, 1) := by decide +kernel
theorem dX5_caseAt_22 : decode cX5_caseAt 22 = .ok (.if_icmp .ge 5, 3) := by decide +kernel
theorem dX5_caseAt_25 : decode cX5_caseAt 25 = .ok (.iload_n 3, 1) := by decide +kernel
theorem dX5_caseAt_26 : decode cX5_caseAt 26 = .ok (.ireturn, 1) := by decide +kernel
theorem dX5_caseAt_27 : decode cX5_caseAt 27 = .ok (.iinc 3 1, 3) := by decide +kernel
theorem dX5_caseAt_30 : decode cX5_caseAt 30 = .ok (.goto (-26), 3) := by decide +kernel
theorem dX5_caseAt_33 : decode cX5_caseAt 33 = .ok (.iconst 0, 1) := by decide +kernel
theorem dX5_caseAt_34 : decode cX5_caseAt 34 = .ok (.ireturn, 1) := by decide +kernel
theorem dX5_mostFor_0 : decode cX5_mostFor 0 = .ok (.lconst 0, 1) := by decide +kernel
theorem dX5_mostFor_1 : decode cX5_mostFor 1 = .ok (.lstore_n 2, 1) := by decide +kernel
theorem dX5_mostFor_2 : decode cX5_mostFor 2 = .ok (.iconst 0, 1) := by decide +kernel
theorem dX5_mostFor_3 : decode cX5_mostFor 3 = .ok (.istore 4, 2) := by decide +kernel
theorem dX5_mostFor_5 : decode cX5_mostFor 5 = .ok (.iload 4, 2) := by decide +kernel
theorem dX5_mostFor_7 : decode cX5_mostFor 7 = .ok (.aload_n 0, 1) := by decide +kernel
theorem dX5_mostFor_8 : decode cX5_mostFor 8 = .ok (.getfield 18, 3) := by decide +kernel
theorem dX5_mostFor_11 : decode cX5_mostFor 11 = .ok (.if_icmp .ge 72, 3) := by decide +kernel
theorem dX5_mostFor_14 : decode cX5_mostFor 14 = .ok (.lconst 0, 1) := by decide +kernel
theorem dX5_mostFor_15 : decode cX5_mostFor 15 = .ok (.lstore 5, 2) := by decide +kernel
theorem dX5_mostFor_17 : decode cX5_mostFor 17 = .ok (.iload_n 1, 1) := by decide +kernel
theorem dX5_mostFor_18 : decode cX5_mostFor 18 = .ok (.ineg, 1) := by decide +kernel
theorem dX5_mostFor_19 : decode cX5_mostFor 19 = .ok (.istore 7, 2) := by decide +kernel
theorem dX5_mostFor_21 : decode cX5_mostFor 21 = .ok (.iload 7, 2) := by decide +kernel
theorem dX5_mostFor_23 : decode cX5_mostFor 23 = .ok (.iload_n 1, 1) := by decide +kernel
theorem dX5_mostFor_24 : decode cX5_mostFor 24 = .ok (.if_icmp .gt 40, 3) := by decide +kernel
theorem dX5_mostFor_27 : decode cX5_mostFor 27 = .ok (.lload 5, 2) := by decide +kernel
theorem dX5_mostFor_29 : decode cX5_mostFor 29 = .ok (.iload 7, 2) := by decide +kernel
theorem dX5_mostFor_31 : decode cX5_mostFor 31 = .ok (.i2l, 1) := by decide +kernel
theorem dX5_mostFor_32 : decode cX5_mostFor 32 = .ok (.aload_n 0, 1) := by decide +kernel
theorem dX5_mostFor_33 : decode cX5_mostFor 33 = .ok (.iload 4, 2) := by decide +kernel
theorem dX5_mostFor_35 : decode cX5_mostFor 35 = .ok (.invokevirtual 34, 3) := by decide +kernel
theorem dX5_mostFor_38 : decode cX5_mostFor 38 = .ok (.aload_n 0, 1) := by decide +kernel
theorem dX5_mostFor_39 : decode cX5_mostFor 39 = .ok (.getfield 37, 3) := by decide +kernel
theorem dX5_mostFor_42 : decode cX5_mostFor 42 = .ok (.isub, 1) := by decide +kernel
theorem dX5_mostFor_43 : decode cX5_mostFor 43 = .ok (.aload_n 0, 1) := by decide +kernel
theorem dX5_mostFor_44 : decode cX5_mostFor 44 = .ok (.getfield 40, 3) := by decide +kernel
theorem dX5_mostFor_47 : decode cX5_mostFor 47 = .ok (.iload 7, 2) := by decide +kernel
theorem dX5_mostFor_49 : decode cX5_mostFor 49 = .ok (.imul, 1) := by decide +kernel
theorem dX5_mostFor_50 : decode cX5_mostFor 50 = .ok (.isub, 1) := by decide +kernel
theorem dX5_mostFor_51 : decode cX5_mostFor 51 = .ok (.i2l, 1) := by decide +kernel
theorem dX5_mostFor_52 : decode cX5_mostFor 52 = .ok (.lmul, 1) := by decide +kernel
theorem dX5_mostFor_53 : decode cX5_mostFor 53 = .ok (.invokestatic 43, 3) := by decide +kernel
theorem dX5_mostFor_56 : decode cX5_mostFor 56 = .ok (.lstore 5, 2) := by decide +kernel
theorem dX5_mostFor_58 : decode cX5_mostFor 58 = .ok (.iinc 7 1, 3) := by decide +kernel
theorem dX5_mostFor_61 : decode cX5_mostFor 61 = .ok (.goto (-40), 3) := by decide +kernel
theorem dX5_mostFor_64 : decode cX5_mostFor 64 = .ok (.lload_n 2, 1) := by decide +kernel
theorem dX5_mostFor_65 : decode cX5_mostFor 65 = .ok (.aload_n 0, 1) := by decide +kernel
theorem dX5_mostFor_66 : decode cX5_mostFor 66 = .ok (.iload 4, 2) := by decide +kernel
theorem dX5_mostFor_68 : decode cX5_mostFor 68 = .ok (.invokevirtual 31, 3) := by decide +kernel
theorem dX5_mostFor_71 : decode cX5_mostFor 71 = .ok (.i2l, 1) := by decide +kernel
theorem dX5_mostFor_72 : decode cX5_mostFor 72 = .ok (.lload 5, 2) := by decide +kernel
theorem dX5_mostFor_74 : decode cX5_mostFor 74 = .ok (.lmul, 1) := by decide +kernel
theorem dX5_mostFor_75 : decode cX5_mostFor 75 = .ok (.ladd, 1) := by decide +kernel
theorem dX5_mostFor_76 : decode cX5_mostFor 76 = .ok (.lstore_n 2, 1) := by decide +kernel
theorem dX5_mostFor_77 : decode cX5_mostFor 77 = .ok (.iinc 4 1, 3) := by decide +kernel
theorem dX5_mostFor_80 : decode cX5_mostFor 80 = .ok (.goto (-75), 3) := by decide +kernel
theorem dX5_mostFor_83 : decode cX5_mostFor 83 = .ok (.lload_n 2, 1) := by decide +kernel
theorem dX5_mostFor_84 : decode cX5_mostFor 84 = .ok (.lreturn, 1) := by decide +kernel
theorem dX5_mixedInto_0 : decode cX5_mixedInto 0 = .ok (.lload_n 1, 1) := by decide +kernel
theorem dX5_mixedInto_1 : decode cX5_mixedInto 1 = .ok (.aload_n 0, 1) := by decide +kernel
theorem dX5_mixedInto_2 : decode cX5_mixedInto 2 = .ok (.getfield 37, 3) := by decide +kernel
theorem dX5_mixedInto_5 : decode cX5_mixedInto 5 = .ok (.i2l, 1) := by decide +kernel
theorem dX5_mixedInto_6 : decode cX5_mixedInto 6 = .ok (.invokestatic 49, 3) := by decide +kernel
theorem dX5_mixedInto_9 : decode cX5_mixedInto 9 = .ok (.aload_n 0, 1) := by decide +kernel
theorem dX5_mixedInto_10 : decode cX5_mixedInto 10 = .ok (.getfield 40, 3) := by decide +kernel
theorem dX5_mixedInto_13 : decode cX5_mixedInto 13 = .ok (.i2l, 1) := by decide +kernel
theorem dX5_mixedInto_14 : decode cX5_mixedInto 14 = .ok (.invokestatic 49, 3) := by decide +kernel
theorem dX5_mixedInto_17 : decode cX5_mixedInto 17 = .ok (.lstore_n 3, 1) := by decide +kernel
theorem dX5_mixedInto_18 : decode cX5_mixedInto 18 = .ok (.iconst 0, 1) := by decide +kernel
theorem dX5_mixedInto_19 : decode cX5_mixedInto 19 = .ok (.istore 5, 2) := by decide +kernel
theorem dX5_mixedInto_21 : decode cX5_mixedInto 21 = .ok (.iload 5, 2) := by decide +kernel
theorem dX5_mixedInto_23 : decode cX5_mixedInto 23 = .ok (.aload_n 0, 1) := by decide +kernel
theorem dX5_mixedInto_24 : decode cX5_mixedInto 24 = .ok (.getfield 18, 3) := by decide +kernel
theorem dX5_mixedInto_27 : decode cX5_mixedInto 27 = .ok (.if_icmp .ge 31, 3) := by decide +kernel
theorem dX5_mixedInto_30 : decode cX5_mixedInto 30 = .ok (.lload_n 3, 1) := by decide +kernel
theorem dX5_mixedInto_31 : decode cX5_mixedInto 31 = .ok (.aload_n 0, 1) := by decide +kernel
theorem dX5_mixedInto_32 : decode cX5_mixedInto 32 = .ok (.iload 5, 2) := by decide +kernel
theorem dX5_mixedInto_34 : decode cX5_mixedInto 34 = .ok (.invokevirtual 31, 3) := by decide +kernel
theorem dX5_mixedInto_37 : decode cX5_mixedInto 37 = .ok (.i2l, 1) := by decide +kernel
theorem dX5_mixedInto_38 : decode cX5_mixedInto 38 = .ok (.invokestatic 49, 3) := by decide +kernel
theorem dX5_mixedInto_41 : decode cX5_mixedInto 41 = .ok (.aload_n 0, 1) := by decide +kernel
theorem dX5_mixedInto_42 : decode cX5_mixedInto 42 = .ok (.iload 5, 2) := by decide +kernel
theorem dX5_mixedInto_44 : decode cX5_mixedInto 44 = .ok (.invokevirtual 34, 3) := by decide +kernel
theorem dX5_mixedInto_47 : decode cX5_mixedInto 47 = .ok (.i2l, 1) := by decide +kernel
theorem dX5_mixedInto_48 : decode cX5_mixedInto 48 = .ok (.invokestatic 49, 3) := by decide +kernel
theorem dX5_mixedInto_51 : decode cX5_mixedInto 51 = .ok (.lstore_n 3, 1) := by decide +kernel
theorem dX5_mixedInto_52 : decode cX5_mixedInto 52 = .ok (.iinc 5 1, 3) := by decide +kernel
theorem dX5_mixedInto_55 : decode cX5_mixedInto 55 = .ok (.goto (-34), 3) := by decide +kernel
theorem dX5_mixedInto_58 : decode cX5_mixedInto 58 = .ok (.lload_n 3, 1) := by decide +kernel
theorem dX5_mixedInto_59 : decode cX5_mixedInto 59 = .ok (.lreturn, 1) := by decide +kernel
theorem dX6_init_0 : decode cX6_init 0 = .ok (.aload_n 0, 1) := by decide +kernel
theorem dX6_init_1 : decode cX6_init 1 = .ok (.invokespecial 3, 3) := by decide +kernel
theorem dX6_init_4 : decode cX6_init 4 = .ok (.aload_n 0, 1) := by decide +kernel
theorem dX6_init_5 : decode cX6_init 5 = .ok (.iload_n 1, 1) := by decide +kernel
theorem dX6_init_6 : decode cX6_init 6 = .ok (.putfield 9, 3) := by decide +kernel
theorem dX6_init_9 : decode cX6_init 9 = .ok (.aload_n 0, 1) := by decide +kernel
theorem dX6_init_10 : decode cX6_init 10 = .ok (.iload_n 2, 1) := by decide +kernel
theorem dX6_init_11 : decode cX6_init 11 = .ok (.putfield 15, 3) := by decide +kernel
theorem dX6_init_14 : decode cX6_init 14 = .ok (.return_, 1) := by decide +kernel
theorem dX6_ofKind_0 : decode cX6_ofKind 0 = .ok (.iload_n 0, 1) := by decide +kernel
theorem dX6_ofKind_1 : decode cX6_ofKind 1 = .ok (.tableswitch 71 1 4 #[31, 41, 51, 61], 31) := by decide +kernel
theorem dX6_ofKind_32 : decode cX6_ofKind 32 = .ok (.new 18, 3) := by decide +kernel
theorem dX6_ofKind_35 : decode cX6_ofKind 35 = .ok (.dup, 1) := by decide +kernel
theorem dX6_ofKind_36 : decode cX6_ofKind 36 = .ok (.iload_n 0, 1) := by decide +kernel
theorem dX6_ofKind_37 : decode cX6_ofKind 37 = .ok (.iload_n 1, 1) := by decide +kernel
theorem dX6_ofKind_38 : decode cX6_ofKind 38 = .ok (.invokespecial 20, 3) := by decide +kernel
theorem dX6_ofKind_41 : decode cX6_ofKind 41 = .ok (.areturn, 1) := by decide +kernel
theorem dX6_ofKind_42 : decode cX6_ofKind 42 = .ok (.new 23, 3) := by decide +kernel
theorem dX6_ofKind_45 : decode cX6_ofKind 45 = .ok (.dup, 1) := by decide +kernel
theorem dX6_ofKind_46 : decode cX6_ofKind 46 = .ok (.iload_n 0, 1) := by decide +kernel
theorem dX6_ofKind_47 : decode cX6_ofKind 47 = .ok (.iload_n 1, 1) := by decide +kernel
theorem dX6_ofKind_48 : decode cX6_ofKind 48 = .ok (.invokespecial 25, 3) := by decide +kernel
theorem dX6_ofKind_51 : decode cX6_ofKind 51 = .ok (.areturn, 1) := by decide +kernel
theorem dX6_ofKind_52 : decode cX6_ofKind 52 = .ok (.new 26, 3) := by decide +kernel
theorem dX6_ofKind_55 : decode cX6_ofKind 55 = .ok (.dup, 1) := by decide +kernel
theorem dX6_ofKind_56 : decode cX6_ofKind 56 = .ok (.iload_n 0, 1) := by decide +kernel
theorem dX6_ofKind_57 : decode cX6_ofKind 57 = .ok (.iload_n 1, 1) := by decide +kernel
theorem dX6_ofKind_58 : decode cX6_ofKind 58 = .ok (.invokespecial 28, 3) := by decide +kernel
theorem dX6_ofKind_61 : decode cX6_ofKind 61 = .ok (.areturn, 1) := by decide +kernel
theorem dX6_ofKind_62 : decode cX6_ofKind 62 = .ok (.new 29, 3) := by decide +kernel
theorem dX6_ofKind_65 : decode cX6_ofKind 65 = .ok (.dup, 1) := by decide +kernel
theorem dX6_ofKind_66 : decode cX6_ofKind 66 = .ok (.iload_n 0, 1) := by decide +kernel
theorem dX6_ofKind_67 : decode cX6_ofKind 67 = .ok (.iload_n 1, 1) := by decide +kernel
theorem dX6_ofKind_68 : decode cX6_ofKind 68 = .ok (.invokespecial 31, 3) := by decide +kernel
theorem dX6_ofKind_71 : decode cX6_ofKind 71 = .ok (.areturn, 1) := by decide +kernel
theorem dX6_ofKind_72 : decode cX6_ofKind 72 = .ok (.new 10, 3) := by decide +kernel
theorem dX6_ofKind_75 : decode cX6_ofKind 75 = .ok (.dup, 1) := by decide +kernel
theorem dX6_ofKind_76 : decode cX6_ofKind 76 = .ok (.iload_n 0, 1) := by decide +kernel
theorem dX6_ofKind_77 : decode cX6_ofKind 77 = .ok (.iload_n 1, 1) := by decide +kernel
theorem dX6_ofKind_78 : decode cX6_ofKind 78 = .ok (.invokespecial 32, 3) := by decide +kernel
theorem dX6_ofKind_81 : decode cX6_ofKind 81 = .ok (.areturn, 1) := by decide +kernel
theorem dX6_mostOf_0 : decode cX6_mostOf 0 = .ok (.iload_n 0, 1) := by decide +kernel
theorem dX6_mostOf_1 : decode cX6_mostOf 1 = .ok (.iconst 3, 1) := by decide +kernel
theorem dX6_mostOf_2 : decode cX6_mostOf 2 = .ok (.if_icmp .eq 8, 3) := by decide +kernel
theorem dX6_mostOf_5 : decode cX6_mostOf 5 = .ok (.iload_n 0, 1) := by decide +kernel
theorem dX6_mostOf_6 : decode cX6_mostOf 6 = .ok (.iconst 4, 1) := by decide +kernel
theorem dX6_mostOf_7 : decode cX6_mostOf 7 = .ok (.if_icmp .ne 8, 3) := by decide +kernel
theorem dX6_mostOf_10 : decode cX6_mostOf 10 = .ok (.bipush 100, 2) := by decide +kernel
theorem dX6_mostOf_12 : decode cX6_mostOf 12 = .ok (.goto 6, 3) := by decide +kernel
theorem dX6_mostOf_15 : decode cX6_mostOf 15 = .ok (.sipush 255, 3) := by decide +kernel
theorem dX6_mostOf_18 : decode cX6_mostOf 18 = .ok (.ireturn, 1) := by decide +kernel
theorem dX6_wholeOf_0 : decode cX6_wholeOf 0 = .ok (.bipush 100, 2) := by decide +kernel
theorem dX6_wholeOf_2 : decode cX6_wholeOf 2 = .ok (.iconst 1, 1) := by decide +kernel
theorem dX6_wholeOf_3 : decode cX6_wholeOf 3 = .ok (.iload_n 0, 1) := by decide +kernel
theorem dX6_wholeOf_4 : decode cX6_wholeOf 4 = .ok (.iconst 1, 1) := by decide +kernel
theorem dX6_wholeOf_5 : decode cX6_wholeOf 5 = .ok (.isub, 1) := by decide +kernel
theorem dX6_wholeOf_6 : decode cX6_wholeOf 6 = .ok (.invokestatic 33, 3) := by decide +kernel
theorem dX6_wholeOf_9 : decode cX6_wholeOf 9 = .ok (.imul, 1) := by decide +kernel
theorem dX6_wholeOf_10 : decode cX6_wholeOf 10 = .ok (.ireturn, 1) := by decide +kernel
theorem dX6_isOf_0 : decode cX6_isOf 0 = .ok (.iload_n 1, 1) := by decide +kernel
theorem dX6_isOf_1 : decode cX6_isOf 1 = .ok (.tableswitch 57 0 4 #[35, 37, 42, 47, 52], 35) := by decide +kernel
theorem dX6_isOf_36 : decode cX6_isOf 36 = .ok (.iconst 1, 1) := by decide +kernel
theorem dX6_isOf_37 : decode cX6_isOf 37 = .ok (.ireturn, 1) := by decide +kernel
theorem dX6_isOf_38 : decode cX6_isOf 38 = .ok (.aload_n 0, 1) := by decide +kernel
theorem dX6_isOf_39 : decode cX6_isOf 39 = .ok (.instanceof 18, 3) := by decide +kernel
theorem dX6_isOf_42 : decode cX6_isOf 42 = .ok (.ireturn, 1) := by decide +kernel
theorem dX6_isOf_43 : decode cX6_isOf 43 = .ok (.aload_n 0, 1) := by decide +kernel
theorem dX6_isOf_44 : decode cX6_isOf 44 = .ok (.instanceof 23, 3) := by decide +kernel
theorem dX6_isOf_47 : decode cX6_isOf 47 = .ok (.ireturn, 1) := by decide +kernel
theorem dX6_isOf_48 : decode cX6_isOf 48 = .ok (.aload_n 0, 1) := by decide +kernel
theorem dX6_isOf_49 : decode cX6_isOf 49 = .ok (.instanceof 26, 3) := by decide +kernel
theorem dX6_isOf_52 : decode cX6_isOf 52 = .ok (.ireturn, 1) := by decide +kernel
theorem dX6_isOf_53 : decode cX6_isOf 53 = .ok (.aload_n 0, 1) := by decide +kernel
theorem dX6_isOf_54 : decode cX6_isOf 54 = .ok (.instanceof 29, 3) := by decide +kernel
theorem dX6_isOf_57 : decode cX6_isOf 57 = .ok (.ireturn, 1) := by decide +kernel
theorem dX6_isOf_58 : decode cX6_isOf 58 = .ok (.iconst 0, 1) := by decide +kernel
theorem dX6_isOf_59 : decode cX6_isOf 59 = .ok (.ireturn, 1) := by decide +kernel
theorem dX6_signOf_0 : decode cX6_signOf 0 = .ok (.iconst 0, 1) := by decide +kernel
theorem dX6_signOf_1 : decode cX6_signOf 1 = .ok (.ireturn, 1) := by decide +kernel
theorem dX6_share_0 : decode cX6_share 0 = .ok (.iload_n 2, 1) := by decide +kernel
theorem dX6_share_1 : decode cX6_share 1 = .ok (.aload_n 0, 1) := by decide +kernel
theorem dX6_share_2 : decode cX6_share 2 = .ok (.iload_n 1, 1) := by decide +kernel
theorem dX6_share_3 : decode cX6_share 3 = .ok (.invokevirtual 39, 3) := by decide +kernel
theorem dX6_share_6 : decode cX6_share 6 = .ok (.if_icmp .ne 10, 3) := by decide +kernel
theorem dX6_share_9 : decode cX6_share 9 = .ok (.iload_n 3, 1) := by decide +kernel
theorem dX6_share_10 : decode cX6_share 10 = .ok (.invokestatic 43, 3) := by decide +kernel
theorem dX6_share_13 : decode cX6_share 13 = .ok (.goto 4, 3) := by decide +kernel
theorem dX6_share_16 : decode cX6_share 16 = .ok (.iconst 0, 1) := by decide +kernel
theorem dX6_share_17 : decode cX6_share 17 = .ok (.ireturn, 1) := by decide +kernel
theorem dX6_hears_0 : decode cX6_hears 0 = .ok (.aload_n 0, 1) := by decide +kernel
theorem dX6_hears_1 : decode cX6_hears 1 = .ok (.iload_n 1, 1) := by decide +kernel
theorem dX6_hears_2 : decode cX6_hears 2 = .ok (.invokevirtual 39, 3) := by decide +kernel
theorem dX6_hears_5 : decode cX6_hears 5 = .ok (.ireturn, 1) := by decide +kernel
theorem dX6_nearer_0 : decode cX6_nearer 0 = .ok (.iconst 0, 1) := by decide +kernel
theorem dX6_nearer_1 : decode cX6_nearer 1 = .ok (.ireturn, 1) := by decide +kernel
theorem dX7_init_0 : decode cX7_init 0 = .ok (.aload_n 0, 1) := by decide +kernel
theorem dX7_init_1 : decode cX7_init 1 = .ok (.invokespecial 3, 3) := by decide +kernel
theorem dX7_init_4 : decode cX7_init 4 = .ok (.aload_n 0, 1) := by decide +kernel
theorem dX7_init_5 : decode cX7_init 5 = .ok (.bipush 60, 2) := by decide +kernel
theorem dX7_init_7 : decode cX7_init 7 = .ok (.newarray .int, 2) := by decide +kernel
theorem dX7_init_9 : decode cX7_init 9 = .ok (.putfield 9, 3) := by decide +kernel
theorem dX7_init_12 : decode cX7_init 12 = .ok (.return_, 1) := by decide +kernel
theorem dX7_lettersIn_0 : decode cX7_lettersIn 0 = .ok (.iconst 0, 1) := by decide +kernel
theorem dX7_lettersIn_1 : decode cX7_lettersIn 1 = .ok (.istore_n 2, 1) := by decide +kernel
theorem dX7_lettersIn_2 : decode cX7_lettersIn 2 = .ok (.iconst 0, 1) := by decide +kernel
theorem dX7_lettersIn_3 : decode cX7_lettersIn 3 = .ok (.istore_n 3, 1) := by decide +kernel
theorem dX7_lettersIn_4 : decode cX7_lettersIn 4 = .ok (.iload_n 3, 1) := by decide +kernel
theorem dX7_lettersIn_5 : decode cX7_lettersIn 5 = .ok (.bipush 8, 2) := by decide +kernel
theorem dX7_lettersIn_7 : decode cX7_lettersIn 7 = .ok (.if_icmp .ge 48, 3) := by decide +kernel
theorem dX7_lettersIn_10 : decode cX7_lettersIn 10 = .ok (.lload_n 0, 1) := by decide +kernel
theorem dX7_lettersIn_11 : decode cX7_lettersIn 11 = .ok (.iload_n 3, 1) := by decide +kernel
theorem dX7_lettersIn_12 : decode cX7_lettersIn 12 = .ok (.invokestatic 15, 3) := by decide +kernel
theorem dX7_lettersIn_15 : decode cX7_lettersIn 15 = .ok (.istore 4, 2) := by decide +kernel
theorem dX7_lettersIn_17 : decode cX7_lettersIn 17 = .ok (.iload 4, 2) := by decide +kernel
theorem dX7_lettersIn_19 : decode cX7_lettersIn 19 = .ok (.bipush 126, 2) := by decide +kernel
theorem dX7_lettersIn_21 : decode cX7_lettersIn 21 = .ok (.if_icmp .gt 13, 3) := by decide +kernel
theorem dX7_lettersIn_24 : decode cX7_lettersIn 24 = .ok (.iload 4, 2) := by decide +kernel
theorem dX7_lettersIn_26 : decode cX7_lettersIn 26 = .ok (.ifCond .eq 10, 3) := by decide +kernel
theorem dX7_lettersIn_29 : decode cX7_lettersIn 29 = .ok (.iload_n 2, 1) := by decide +kernel
theorem dX7_lettersIn_30 : decode cX7_lettersIn 30 = .ok (.iload_n 3, 1) := by decide +kernel
theorem dX7_lettersIn_31 : decode cX7_lettersIn 31 = .ok (.if_icmp .ge 5, 3) := by decide +kernel
theorem dX7_lettersIn_34 : decode cX7_lettersIn 34 = .ok (.iconst (-1), 1) := by decide +kernel
theorem dX7_lettersIn_35 : decode cX7_lettersIn 35 = .ok (.ireturn, 1) := by decide +kernel
theorem dX7_lettersIn_36 : decode cX7_lettersIn 36 = .ok (.iload_n 2, 1) := by decide +kernel
theorem dX7_lettersIn_37 : decode cX7_lettersIn 37 = .ok (.iload 4, 2) := by decide +kernel
theorem dX7_lettersIn_39 : decode cX7_lettersIn 39 = .ok (.ifCond .eq 7, 3) := by decide +kernel
theorem dX7_lettersIn_42 : decode cX7_lettersIn 42 = .ok (.iconst 1, 1) := by decide +kernel
theorem dX7_lettersIn_43 : decode cX7_lettersIn 43 = .ok (.goto 4, 3) := by decide +kernel
theorem dX7_lettersIn_46 : decode cX7_lettersIn 46 = .ok (.iconst 0, 1) := by decide +kernel
theorem dX7_lettersIn_47 : decode cX7_lettersIn 47 = .ok (.iadd, 1) := by decide +kernel
theorem dX7_lettersIn_48 : decode cX7_lettersIn 48 = .ok (.istore_n 2, 1) := by decide +kernel
theorem dX7_lettersIn_49 : decode cX7_lettersIn 49 = .ok (.iinc 3 1, 3) := by decide +kernel
theorem dX7_lettersIn_52 : decode cX7_lettersIn 52 = .ok (.goto (-48), 3) := by decide +kernel
theorem dX7_lettersIn_55 : decode cX7_lettersIn 55 = .ok (.iload_n 2, 1) := by decide +kernel
theorem dX7_lettersIn_56 : decode cX7_lettersIn 56 = .ok (.ireturn, 1) := by decide +kernel
theorem dX7_letterOf_0 : decode cX7_letterOf 0 = .ok (.lload_n 0, 1) := by decide +kernel
theorem dX7_letterOf_1 : decode cX7_letterOf 1 = .ok (.bipush 8, 2) := by decide +kernel
theorem dX7_letterOf_3 : decode cX7_letterOf 3 = .ok (.iload_n 2, 1) := by decide +kernel
theorem dX7_letterOf_4 : decode cX7_letterOf 4 = .ok (.imul, 1) := by decide +kernel
theorem dX7_letterOf_5 : decode cX7_letterOf 5 = .ok (.lushr, 1) := by decide +kernel
theorem dX7_letterOf_6 : decode cX7_letterOf 6 = .ok (.ldc2_w 19, 3) := by decide +kernel
theorem dX7_letterOf_9 : decode cX7_letterOf 9 = .ok (.land, 1) := by decide +kernel
theorem dX7_letterOf_10 : decode cX7_letterOf 10 = .ok (.l2i, 1) := by decide +kernel
theorem dX7_letterOf_11 : decode cX7_letterOf 11 = .ok (.ireturn, 1) := by decide +kernel
theorem dX7_append_0 : decode cX7_append 0 = .ok (.aload_n 0, 1) := by decide +kernel
theorem dX7_append_1 : decode cX7_append 1 = .ok (.getfield 21, 3) := by decide +kernel
theorem dX7_append_4 : decode cX7_append 4 = .ok (.ifCond .lt 17, 3) := by decide +kernel
theorem dX7_append_7 : decode cX7_append 7 = .ok (.iload_n 3, 1) := by decide +kernel
theorem dX7_append_8 : decode cX7_append 8 = .ok (.aload_n 0, 1) := by decide +kernel
theorem dX7_append_9 : decode cX7_append 9 = .ok (.getfield 9, 3) := by decide +kernel
theorem dX7_append_12 : decode cX7_append 12 = .ok (.arraylength, 1) := by decide +kernel
theorem dX7_append_13 : decode cX7_append 13 = .ok (.aload_n 0, 1) := by decide +kernel
theorem dX7_append_14 : decode cX7_append 14 = .ok (.getfield 21, 3) := by decide +kernel
theorem dX7_append_17 : decode cX7_append 17 = .ok (.isub, 1) := by decide +kernel
theorem dX7_append_18 : decode cX7_append 18 = .ok (.if_icmp .le 5, 3) := by decide +kernel
theorem dX7_append_21 : decode cX7_append 21 = .ok (.iconst 0, 1) := by decide +kernel
theorem dX7_append_22 : decode cX7_append 22 = .ok (.ireturn, 1) := by decide +kernel
theorem dX7_append_23 : decode cX7_append 23 = .ok (.iconst 0, 1) := by decide +kernel
theorem dX7_append_24 : decode cX7_append 24 = .ok (.istore 4, 2) := by decide +kernel
theorem dX7_append_26 : decode cX7_append 26 = .ok (.iload 4, 2) := by decide +kernel
theorem dX7_append_28 : decode cX7_append 28 = .ok (.iload_n 3, 1) := by decide +kernel
theorem dX7_append_29 : decode cX7_append 29 = .ok (.if_icmp .ge 46, 3) := by decide +kernel
theorem dX7_append_32 : decode cX7_append 32 = .ok (.aload_n 0, 1) := by decide +kernel
theorem dX7_append_33 : decode cX7_append 33 = .ok (.getfield 21, 3) := by decide +kernel
theorem dX7_append_36 : decode cX7_append 36 = .ok (.aload_n 0, 1) := by decide +kernel
theorem dX7_append_37 : decode cX7_append 37 = .ok (.getfield 9, 3) := by decide +kernel
theorem dX7_append_40 : decode cX7_append 40 = .ok (.arraylength, 1) := by decide +kernel
theorem dX7_append_41 : decode cX7_append 41 = .ok (.if_icmp .ge 34, 3) := by decide +kernel
theorem dX7_append_44 : decode cX7_append 44 = .ok (.aload_n 0, 1) := by decide +kernel
theorem dX7_append_45 : decode cX7_append 45 = .ok (.getfield 9, 3) := by decide +kernel
theorem dX7_append_48 : decode cX7_append 48 = .ok (.aload_n 0, 1) := by decide +kernel
theorem dX7_append_49 : decode cX7_append 49 = .ok (.getfield 21, 3) := by decide +kernel
theorem dX7_append_52 : decode cX7_append 52 = .ok (.lload_n 1, 1) := by decide +kernel
theorem dX7_append_53 : decode cX7_append 53 = .ok (.iload 4, 2) := by decide +kernel
theorem dX7_append_55 : decode cX7_append 55 = .ok (.invokestatic 15, 3) := by decide +kernel
theorem dX7_append_58 : decode cX7_append 58 = .ok (.iastore, 1) := by decide +kernel
theorem dX7_append_59 : decode cX7_append 59 = .ok (.aload_n 0, 1) := by decide +kernel
theorem dX7_append_60 : decode cX7_append 60 = .ok (.dup, 1) := by decide +kernel
theorem dX7_append_61 : decode cX7_append 61 = .ok (.getfield 21, 3) := by decide +kernel
theorem dX7_append_64 : decode cX7_append 64 = .ok (.iconst 1, 1) := by decide +kernel
theorem dX7_append_65 : decode cX7_append 65 = .ok (.iadd, 1) := by decide +kernel
theorem dX7_append_66 : decode cX7_append 66 = .ok (.putfield 21, 3) := by decide +kernel
theorem dX7_append_69 : decode cX7_append 69 = .ok (.iinc 4 1, 3) := by decide +kernel
theorem dX7_append_72 : decode cX7_append 72 = .ok (.goto (-46), 3) := by decide +kernel
theorem dX7_append_75 : decode cX7_append 75 = .ok (.iconst 1, 1) := by decide +kernel
theorem dX7_append_76 : decode cX7_append 76 = .ok (.ireturn, 1) := by decide +kernel
theorem dX7_readInto_0 : decode cX7_readInto 0 = .ok (.aload_n 0, 1) := by decide +kernel
theorem dX7_readInto_1 : decode cX7_readInto 1 = .ok (.iconst 0, 1) := by decide +kernel
theorem dX7_readInto_2 : decode cX7_readInto 2 = .ok (.putfield 25, 3) := by decide +kernel
theorem dX7_readInto_5 : decode cX7_readInto 5 = .ok (.aload_n 1, 1) := by decide +kernel
theorem dX7_readInto_6 : decode cX7_readInto 6 = .ok (.iconst 0, 1) := by decide +kernel
theorem dX7_readInto_7 : decode cX7_readInto 7 = .ok (.putfield 28, 3) := by decide +kernel
theorem dX7_readInto_10 : decode cX7_readInto 10 = .ok (.aload_n 1, 1) := by decide +kernel
theorem dX7_readInto_11 : decode cX7_readInto 11 = .ok (.iconst 0, 1) := by decide +kernel
theorem dX7_readInto_12 : decode cX7_readInto 12 = .ok (.putfield 33, 3) := by decide +kernel
theorem dX7_readInto_15 : decode cX7_readInto 15 = .ok (.aload_n 0, 1) := by decide +kernel
theorem dX7_readInto_16 : decode cX7_readInto 16 = .ok (.bipush 112, 2) := by decide +kernel
theorem dX7_readInto_18 : decode cX7_readInto 18 = .ok (.invokevirtual 36, 3) := by decide +kernel
theorem dX7_readInto_21 : decode cX7_readInto 21 = .ok (.ifCond .ne 5, 3) := by decide +kernel
theorem dX7_readInto_24 : decode cX7_readInto 24 = .ok (.iconst 0, 1) := by decide +kernel
theorem dX7_readInto_25 : decode cX7_readInto 25 = .ok (.ireturn, 1) := by decide +kernel
theorem dX7_readInto_26 : decode cX7_readInto 26 = .ok (.aload_n 1, 1) := by decide +kernel
theorem dX7_readInto_27 : decode cX7_readInto 27 = .ok (.aload_n 0, 1) := by decide +kernel
theorem dX7_readInto_28 : decode cX7_readInto 28 = .ok (.iconst 3, 1) := by decide +kernel
theorem dX7_readInto_29 : decode cX7_readInto 29 = .ok (.bipush 48, 2) := by decide +kernel
theorem dX7_readInto_31 : decode cX7_readInto 31 = .ok (.invokevirtual 40, 3) := by decide +kernel
theorem dX7_readInto_34 : decode cX7_readInto 34 = .ok (.putfield 44, 3) := by decide +kernel
theorem dX7_readInto_37 : decode cX7_readInto 37 = .ok (.aload_n 1, 1) := by decide +kernel
theorem dX7_readInto_38 : decode cX7_readInto 38 = .ok (.getfield 44, 3) := by decide +kernel
theorem dX7_readInto_41 : decode cX7_readInto 41 = .ok (.iconst (-1), 1) := by decide +kernel
theorem dX7_readInto_42 : decode cX7_readInto 42 = .ok (.if_icmp .eq 12, 3) := by decide +kernel
theorem dX7_readInto_45 : decode cX7_readInto 45 = .ok (.aload_n 0, 1) := by decide +kernel
theorem dX7_readInto_46 : decode cX7_readInto 46 = .ok (.bipush 115, 2) := by decide +kernel
theorem dX7_readInto_48 : decode cX7_readInto 48 = .ok (.invokevirtual 36, 3) := by decide +kernel
theorem dX7_readInto_51 : decode cX7_readInto 51 = .ok (.ifCond .ne 5, 3) := by decide +kernel
theorem dX7_readInto_54 : decode cX7_readInto 54 = .ok (.iconst 0, 1) := by decide +kernel
theorem dX7_readInto_55 : decode cX7_readInto 55 = .ok (.ireturn, 1) := by decide +kernel
theorem dX7_readInto_56 : decode cX7_readInto 56 = .ok (.aload_n 1, 1) := by decide +kernel
theorem dX7_readInto_57 : decode cX7_readInto 57 = .ok (.aload_n 0, 1) := by decide +kernel
theorem dX7_readInto_58 : decode cX7_readInto 58 = .ok (.iconst 1, 1) := by decide +kernel
theorem dX7_readInto_59 : decode cX7_readInto 59 = .ok (.bipush 49, 2) := by decide +kernel
theorem dX7_readInto_61 : decode cX7_readInto 61 = .ok (.invokevirtual 40, 3) := by decide +kernel
theorem dX7_readInto_64 : decode cX7_readInto 64 = .ok (.putfield 47, 3) := by decide +kernel
theorem dX7_readInto_67 : decode cX7_readInto 67 = .ok (.aload_n 1, 1) := by decide +kernel
theorem dX7_readInto_68 : decode cX7_readInto 68 = .ok (.getfield 47, 3) := by decide +kernel
theorem dX7_readInto_71 : decode cX7_readInto 71 = .ok (.iconst (-1), 1) := by decide +kernel
theorem dX7_readInto_72 : decode cX7_readInto 72 = .ok (.if_icmp .ne 5, 3) := by decide +kernel
theorem dX7_readInto_75 : decode cX7_readInto 75 = .ok (.iconst 0, 1) := by decide +kernel
theorem dX7_readInto_76 : decode cX7_readInto 76 = .ok (.ireturn, 1) := by decide +kernel
theorem dX7_readInto_77 : decode cX7_readInto 77 = .ok (.iconst 0, 1) := by decide +kernel
theorem dX7_readInto_78 : decode cX7_readInto 78 = .ok (.istore_n 2, 1) := by decide +kernel
theorem dX7_readInto_79 : decode cX7_readInto 79 = .ok (.iload_n 2, 1) := by decide +kernel
theorem dX7_readInto_80 : decode cX7_readInto 80 = .ok (.iconst 4, 1) := by decide +kernel
theorem dX7_readInto_81 : decode cX7_readInto 81 = .ok (.if_icmp .ge 69, 3) := by decide +kernel
theorem dX7_readInto_84 : decode cX7_readInto 84 = .ok (.aload_n 0, 1) := by decide +kernel
theorem dX7_readInto_85 : decode cX7_readInto 85 = .ok (.bipush 59, 2) := by decide +kernel
theorem dX7_readInto_87 : decode cX7_readInto 87 = .ok (.invokevirtual 36, 3) := by decide +kernel
theorem dX7_readInto_90 : decode cX7_readInto 90 = .ok (.ifCond .eq 60, 3) := by decide +kernel
theorem dX7_readInto_93 : decode cX7_readInto 93 = .ok (.aload_n 0, 1) := by decide +kernel
theorem dX7_readInto_94 : decode cX7_readInto 94 = .ok (.iconst 2, 1) := by decide +kernel
theorem dX7_readInto_95 : decode cX7_readInto 95 = .ok (.bipush 49, 2) := by decide +kernel
theorem dX7_readInto_97 : decode cX7_readInto 97 = .ok (.invokevirtual 40, 3) := by decide +kernel
theorem dX7_readInto_100 : decode cX7_readInto 100 = .ok (.istore_n 3, 1) := by decide +kernel
theorem dX7_readInto_101 : decode cX7_readInto 101 = .ok (.iload_n 3, 1) := by decide +kernel
theorem dX7_readInto_102 : decode cX7_readInto 102 = .ok (.iconst (-1), 1) := by decide +kernel
theorem dX7_readInto_103 : decode cX7_readInto 103 = .ok (.if_icmp .eq 12, 3) := by decide +kernel
theorem dX7_readInto_106 : decode cX7_readInto 106 = .ok (.aload_n 0, 1) := by decide +kernel
theorem dX7_readInto_107 : decode cX7_readInto 107 = .ok (.bipush 58, 2) := by decide +kernel
theorem dX7_readInto_109 : decode cX7_readInto 109 = .ok (.invokevirtual 36, 3) := by decide +kernel
theorem dX7_readInto_112 : decode cX7_readInto 112 = .ok (.ifCond .ne 5, 3) := by decide +kernel
theorem dX7_readInto_115 : decode cX7_readInto 115 = .ok (.iconst 0, 1) := by decide +kernel
theorem dX7_readInto_116 : decode cX7_readInto 116 = .ok (.ireturn, 1) := by decide +kernel
theorem dX7_readInto_117 : decode cX7_readInto 117 = .ok (.aload_n 0, 1) := by decide +kernel
theorem dX7_readInto_118 : decode cX7_readInto 118 = .ok (.iconst 3, 1) := by decide +kernel
theorem dX7_readInto_119 : decode cX7_readInto 119 = .ok (.bipush 48, 2) := by decide +kernel
theorem dX7_readInto_121 : decode cX7_readInto 121 = .ok (.invokevirtual 40, 3) := by decide +kernel
theorem dX7_readInto_124 : decode cX7_readInto 124 = .ok (.istore 4, 2) := by decide +kernel
theorem dX7_readInto_126 : decode cX7_readInto 126 = .ok (.iload 4, 2) := by decide +kernel
theorem dX7_readInto_128 : decode cX7_readInto 128 = .ok (.iconst (-1), 1) := by decide +kernel
theorem dX7_readInto_129 : decode cX7_readInto 129 = .ok (.if_icmp .eq 13, 3) := by decide +kernel
theorem dX7_readInto_132 : decode cX7_readInto 132 = .ok (.aload_n 1, 1) := by decide +kernel
theorem dX7_readInto_133 : decode cX7_readInto 133 = .ok (.iload_n 3, 1) := by decide +kernel
theorem dX7_readInto_134 : decode cX7_readInto 134 = .ok (.iload 4, 2) := by decide +kernel
theorem dX7_readInto_136 : decode cX7_readInto 136 = .ok (.invokevirtual 50, 3) := by decide +kernel
theorem dX7_readInto_139 : decode cX7_readInto 139 = .ok (.ifCond .ne 5, 3) := by decide +kernel
theorem dX7_readInto_142 : decode cX7_readInto 142 = .ok (.iconst 0, 1) := by decide +kernel
theorem dX7_readInto_143 : decode cX7_readInto 143 = .ok (.ireturn, 1) := by decide +kernel
theorem dX7_readInto_144 : decode cX7_readInto 144 = .ok (.iinc 2 1, 3) := by decide +kernel
theorem dX7_readInto_147 : decode cX7_readInto 147 = .ok (.goto (-68), 3) := by decide +kernel
theorem dX7_readInto_150 : decode cX7_readInto 150 = .ok (.aload_n 1, 1) := by decide +kernel
theorem dX7_readInto_151 : decode cX7_readInto 151 = .ok (.getfield 28, 3) := by decide +kernel
theorem dX7_readInto_154 : decode cX7_readInto 154 = .ok (.ifCond .le 18, 3) := by decide +kernel
theorem dX7_readInto_157 : decode cX7_readInto 157 = .ok (.aload_n 0, 1) := by decide +kernel
theorem dX7_readInto_158 : decode cX7_readInto 158 = .ok (.getfield 25, 3) := by decide +kernel
theorem dX7_readInto_161 : decode cX7_readInto 161 = .ok (.aload_n 0, 1) := by decide +kernel
theorem dX7_readInto_162 : decode cX7_readInto 162 = .ok (.getfield 21, 3) := by decide +kernel
theorem dX7_readInto_165 : decode cX7_readInto 165 = .ok (.if_icmp .ne 7, 3) := by decide +kernel
theorem dX7_readInto_168 : decode cX7_readInto 168 = .ok (.iconst 1, 1) := by decide +kernel
theorem dX7_readInto_169 : decode cX7_readInto 169 = .ok (.goto 4, 3) := by decide +kernel
theorem dX7_readInto_172 : decode cX7_readInto 172 = .ok (.iconst 0, 1) := by decide +kernel
theorem dX7_readInto_173 : decode cX7_readInto 173 = .ok (.ireturn, 1) := by decide +kernel
theorem dX7_letterHere_0 : decode cX7_letterHere 0 = .ok (.aload_n 0, 1) := by decide +kernel
theorem dX7_letterHere_1 : decode cX7_letterHere 1 = .ok (.getfield 25, 3) := by decide +kernel
theorem dX7_letterHere_4 : decode cX7_letterHere 4 = .ok (.ifCond .lt 38, 3) := by decide +kernel
theorem dX7_letterHere_7 : decode cX7_letterHere 7 = .ok (.aload_n 0, 1) := by decide +kernel
theorem dX7_letterHere_8 : decode cX7_letterHere 8 = .ok (.getfield 25, 3) := by decide +kernel
theorem dX7_letterHere_11 : decode cX7_letterHere 11 = .ok (.aload_n 0, 1) := by decide +kernel
theorem dX7_letterHere_12 : decode cX7_letterHere 12 = .ok (.getfield 21, 3) := by decide +kernel
theorem dX7_letterHere_15 : decode cX7_letterHere 15 = .ok (.if_icmp .ge 27, 3) := by decide +kernel
theorem dX7_letterHere_18 : decode cX7_letterHere 18 = .ok (.aload_n 0, 1) := by decide +kernel
theorem dX7_letterHere_19 : decode cX7_letterHere 19 = .ok (.getfield 25, 3) := by decide +kernel
theorem dX7_letterHere_22 : decode cX7_letterHere 22 = .ok (.aload_n 0, 1) := by decide +kernel
theorem dX7_letterHere_23 : decode cX7_letterHere 23 = .ok (.getfield 9, 3) := by decide +kernel
theorem dX7_letterHere_26 : decode cX7_letterHere 26 = .ok (.arraylength, 1) := by decide +kernel
theorem dX7_letterHere_27 : decode cX7_letterHere 27 = .ok (.if_icmp .ge 15, 3) := by decide +kernel
theorem dX7_letterHere_30 : decode cX7_letterHere 30 = .ok (.aload_n 0, 1) := by decide +kernel
theorem dX7_letterHere_31 : decode cX7_letterHere 31 = .ok (.getfield 9, 3) := by decide +kernel
theorem dX7_letterHere_34 : decode cX7_letterHere 34 = .ok (.aload_n 0, 1) := by decide +kernel
theorem dX7_letterHere_35 : decode cX7_letterHere 35 = .ok (.getfield 25, 3) := by decide +kernel
theorem dX7_letterHere_38 : decode cX7_letterHere 38 = .ok (.iaload, 1) := by decide +kernel
theorem dX7_letterHere_39 : decode cX7_letterHere 39 = .ok (.goto 4, 3) := by decide +kernel
theorem dX7_letterHere_42 : decode cX7_letterHere 42 = .ok (.iconst 0, 1) := by decide +kernel
theorem dX7_letterHere_43 : decode cX7_letterHere 43 = .ok (.ireturn, 1) := by decide +kernel
theorem dX7_reads_0 : decode cX7_reads 0 = .ok (.aload_n 0, 1) := by decide +kernel
theorem dX7_reads_1 : decode cX7_reads 1 = .ok (.invokevirtual 54, 3) := by decide +kernel
theorem dX7_reads_4 : decode cX7_reads 4 = .ok (.iload_n 1, 1) := by decide +kernel
theorem dX7_reads_5 : decode cX7_reads 5 = .ok (.if_icmp .ne 7, 3) := by decide +kernel
theorem dX7_reads_8 : decode cX7_reads 8 = .ok (.iconst 1, 1) := by decide +kernel
theorem dX7_reads_9 : decode cX7_reads 9 = .ok (.goto 4, 3) := by decide +kernel
theorem dX7_reads_12 : decode cX7_reads 12 = .ok (.iconst 0, 1) := by decide +kernel
theorem dX7_reads_13 : decode cX7_reads 13 = .ok (.istore_n 2, 1) := by decide +kernel
theorem dX7_reads_14 : decode cX7_reads 14 = .ok (.aload_n 0, 1) := by decide +kernel
theorem dX7_reads_15 : decode cX7_reads 15 = .ok (.dup, 1) := by decide +kernel
theorem dX7_reads_16 : decode cX7_reads 16 = .ok (.getfield 25, 3) := by decide +kernel
theorem dX7_reads_19 : decode cX7_reads 19 = .ok (.iload_n 2, 1) := by decide +kernel
theorem dX7_reads_20 : decode cX7_reads 20 = .ok (.ifCond .eq 7, 3) := by decide +kernel
theorem dX7_reads_23 : decode cX7_reads 23 = .ok (.iconst 1, 1) := by decide +kernel
theorem dX7_reads_24 : decode cX7_reads 24 = .ok (.goto 4, 3) := by decide +kernel
theorem dX7_reads_27 : decode cX7_reads 27 = .ok (.iconst 0, 1) := by decide +kernel
theorem dX7_reads_28 : decode cX7_reads 28 = .ok (.iadd, 1) := by decide +kernel
theorem dX7_reads_29 : decode cX7_reads 29 = .ok (.putfield 25, 3) := by decide +kernel
theorem dX7_reads_32 : decode cX7_reads 32 = .ok (.iload_n 2, 1) := by decide +kernel
theorem dX7_reads_33 : decode cX7_reads 33 = .ok (.ireturn, 1) := by decide +kernel
theorem dX7_readNumber_0 : decode cX7_readNumber 0 = .ok (.iconst (-1), 1) := by decide +kernel
theorem dX7_readNumber_1 : decode cX7_readNumber 1 = .ok (.istore_n 3, 1) := by decide +kernel
theorem dX7_readNumber_2 : decode cX7_readNumber 2 = .ok (.iconst 0, 1) := by decide +kernel
theorem dX7_readNumber_3 : decode cX7_readNumber 3 = .ok (.istore 4, 2) := by decide +kernel
theorem dX7_readNumber_5 : decode cX7_readNumber 5 = .ok (.iload 4, 2) := by decide +kernel
theorem dX7_readNumber_7 : decode cX7_readNumber 7 = .ok (.iload_n 1, 1) := by decide +kernel
theorem dX7_readNumber_8 : decode cX7_readNumber 8 = .ok (.if_icmp .ge 70, 3) := by decide +kernel
theorem dX7_readNumber_11 : decode cX7_readNumber 11 = .ok (.aload_n 0, 1) := by decide +kernel
theorem dX7_readNumber_12 : decode cX7_readNumber 12 = .ok (.invokevirtual 54, 3) := by decide +kernel
theorem dX7_readNumber_15 : decode cX7_readNumber 15 = .ok (.istore 5, 2) := by decide +kernel
theorem dX7_readNumber_17 : decode cX7_readNumber 17 = .ok (.iload 5, 2) := by decide +kernel
theorem dX7_readNumber_19 : decode cX7_readNumber 19 = .ok (.iload 4, 2) := by decide +kernel
theorem dX7_readNumber_21 : decode cX7_readNumber 21 = .ok (.ifCond .ne 7, 3) := by decide +kernel
theorem dX7_readNumber_24 : decode cX7_readNumber 24 = .ok (.iload_n 2, 1) := by decide +kernel
theorem dX7_readNumber_25 : decode cX7_readNumber 25 = .ok (.goto 5, 3) := by decide +kernel
theorem dX7_readNumber_28 : decode cX7_readNumber 28 = .ok (.bipush 48, 2) := by decide +kernel
theorem dX7_readNumber_30 : decode cX7_readNumber 30 = .ok (.if_icmp .lt 10, 3) := by decide +kernel
theorem dX7_readNumber_33 : decode cX7_readNumber 33 = .ok (.iload 5, 2) := by decide +kernel
theorem dX7_readNumber_35 : decode cX7_readNumber 35 = .ok (.bipush 57, 2) := by decide +kernel
theorem dX7_readNumber_37 : decode cX7_readNumber 37 = .ok (.if_icmp .le 5, 3) := by decide +kernel
theorem dX7_readNumber_40 : decode cX7_readNumber 40 = .ok (.iload_n 3, 1) := by decide +kernel
theorem dX7_readNumber_41 : decode cX7_readNumber 41 = .ok (.ireturn, 1) := by decide +kernel
theorem dX7_readNumber_42 : decode cX7_readNumber 42 = .ok (.iload 4, 2) := by decide +kernel
theorem dX7_readNumber_44 : decode cX7_readNumber 44 = .ok (.ifCond .ne 7, 3) := by decide +kernel
theorem dX7_readNumber_47 : decode cX7_readNumber 47 = .ok (.iconst 0, 1) := by decide +kernel
theorem dX7_readNumber_48 : decode cX7_readNumber 48 = .ok (.goto 7, 3) := by decide +kernel
theorem dX7_readNumber_51 : decode cX7_readNumber 51 = .ok (.iload_n 3, 1) := by decide +kernel
theorem dX7_readNumber_52 : decode cX7_readNumber 52 = .ok (.bipush 10, 2) := by decide +kernel
theorem dX7_readNumber_54 : decode cX7_readNumber 54 = .ok (.imul, 1) := by decide +kernel
theorem dX7_readNumber_55 : decode cX7_readNumber 55 = .ok (.iload 5, 2) := by decide +kernel
theorem dX7_readNumber_57 : decode cX7_readNumber 57 = .ok (.iadd, 1) := by decide +kernel
theorem dX7_readNumber_58 : decode cX7_readNumber 58 = .ok (.bipush 48, 2) := by decide +kernel
theorem dX7_readNumber_60 : decode cX7_readNumber 60 = .ok (.isub, 1) := by decide +kernel
theorem dX7_readNumber_61 : decode cX7_readNumber 61 = .ok (.istore_n 3, 1) := by decide +kernel
theorem dX7_readNumber_62 : decode cX7_readNumber 62 = .ok (.aload_n 0, 1) := by decide +kernel
theorem dX7_readNumber_63 : decode cX7_readNumber 63 = .ok (.dup, 1) := by decide +kernel
theorem dX7_readNumber_64 : decode cX7_readNumber 64 = .ok (.getfield 25, 3) := by decide +kernel
theorem dX7_readNumber_67 : decode cX7_readNumber 67 = .ok (.iconst 1, 1) := by decide +kernel
theorem dX7_readNumber_68 : decode cX7_readNumber 68 = .ok (.iadd, 1) := by decide +kernel
theorem dX7_readNumber_69 : decode cX7_readNumber 69 = .ok (.putfield 25, 3) := by decide +kernel
theorem dX7_readNumber_72 : decode cX7_readNumber 72 = .ok (.iinc 4 1, 3) := by decide +kernel
theorem dX7_readNumber_75 : decode cX7_readNumber 75 = .ok (.goto (-70), 3) := by decide +kernel
theorem dX7_readNumber_78 : decode cX7_readNumber 78 = .ok (.iload_n 3, 1) := by decide +kernel
theorem dX7_readNumber_79 : decode cX7_readNumber 79 = .ok (.ireturn, 1) := by decide +kernel
theorem dX7_mixedInto_0 : decode cX7_mixedInto 0 = .ok (.lload_n 1, 1) := by decide +kernel
theorem dX7_mixedInto_1 : decode cX7_mixedInto 1 = .ok (.lstore_n 3, 1) := by decide +kernel
theorem dX7_mixedInto_2 : decode cX7_mixedInto 2 = .ok (.iconst 0, 1) := by decide +kernel
theorem dX7_mixedInto_3 : decode cX7_mixedInto 3 = .ok (.istore 5, 2) := by decide +kernel
theorem dX7_mixedInto_5 : decode cX7_mixedInto 5 = .ok (.iload 5, 2) := by decide +kernel
theorem dX7_mixedInto_7 : decode cX7_mixedInto 7 = .ok (.aload_n 0, 1) := by decide +kernel
theorem dX7_mixedInto_8 : decode cX7_mixedInto 8 = .ok (.getfield 21, 3) := by decide +kernel
theorem dX7_mixedInto_11 : decode cX7_mixedInto 11 = .ok (.if_icmp .ge 32, 3) := by decide +kernel
theorem dX7_mixedInto_14 : decode cX7_mixedInto 14 = .ok (.iload 5, 2) := by decide +kernel
theorem dX7_mixedInto_16 : decode cX7_mixedInto 16 = .ok (.aload_n 0, 1) := by decide +kernel
theorem dX7_mixedInto_17 : decode cX7_mixedInto 17 = .ok (.getfield 9, 3) := by decide +kernel
theorem dX7_mixedInto_20 : decode cX7_mixedInto 20 = .ok (.arraylength, 1) := by decide +kernel
theorem dX7_mixedInto_21 : decode cX7_mixedInto 21 = .ok (.if_icmp .ge 22, 3) := by decide +kernel
theorem dX7_mixedInto_24 : decode cX7_mixedInto 24 = .ok (.lload_n 3, 1) := by decide +kernel
theorem dX7_mixedInto_25 : decode cX7_mixedInto 25 = .ok (.aload_n 0, 1) := by decide +kernel
theorem dX7_mixedInto_26 : decode cX7_mixedInto 26 = .ok (.getfield 9, 3) := by decide +kernel
theorem dX7_mixedInto_29 : decode cX7_mixedInto 29 = .ok (.iload 5, 2) := by decide +kernel
theorem dX7_mixedInto_31 : decode cX7_mixedInto 31 = .ok (.iaload, 1) := by decide +kernel
theorem dX7_mixedInto_32 : decode cX7_mixedInto 32 = .ok (.i2l, 1) := by decide +kernel
theorem dX7_mixedInto_33 : decode cX7_mixedInto 33 = .ok (.invokestatic 58, 3) := by decide +kernel
theorem dX7_mixedInto_36 : decode cX7_mixedInto 36 = .ok (.lstore_n 3, 1) := by decide +kernel
theorem dX7_mixedInto_37 : decode cX7_mixedInto 37 = .ok (.iinc 5 1, 3) := by decide +kernel
theorem dX7_mixedInto_40 : decode cX7_mixedInto 40 = .ok (.goto (-35), 3) := by decide +kernel
theorem dX7_mixedInto_43 : decode cX7_mixedInto 43 = .ok (.lload_n 3, 1) := by decide +kernel
theorem dX7_mixedInto_44 : decode cX7_mixedInto 44 = .ok (.lreturn, 1) := by decide +kernel
theorem dX8_init_0 : decode cX8_init 0 = .ok (.aload_n 0, 1) := by decide +kernel
theorem dX8_init_1 : decode cX8_init 1 = .ok (.iload_n 1, 1) := by decide +kernel
theorem dX8_init_2 : decode cX8_init 2 = .ok (.iload_n 2, 1) := by decide +kernel
theorem dX8_init_3 : decode cX8_init 3 = .ok (.invokespecial 1, 3) := by decide +kernel
theorem dX8_init_6 : decode cX8_init 6 = .ok (.return_, 1) := by decide +kernel
theorem dX8_signOf_0 : decode cX8_signOf 0 = .ok (.aload_n 0, 1) := by decide +kernel
theorem dX8_signOf_1 : decode cX8_signOf 1 = .ok (.getfield 7, 3) := by decide +kernel
theorem dX8_signOf_4 : decode cX8_signOf 4 = .ok (.iconst 2, 1) := by decide +kernel
theorem dX8_signOf_5 : decode cX8_signOf 5 = .ok (.iload_n 1, 1) := by decide +kernel
theorem dX8_signOf_6 : decode cX8_signOf 6 = .ok (.imul, 1) := by decide +kernel
theorem dX8_signOf_7 : decode cX8_signOf 7 = .ok (.ishr, 1) := by decide +kernel
theorem dX8_signOf_8 : decode cX8_signOf 8 = .ok (.iconst 3, 1) := by decide +kernel
theorem dX8_signOf_9 : decode cX8_signOf 9 = .ok (.iand, 1) := by decide +kernel
theorem dX8_signOf_10 : decode cX8_signOf 10 = .ok (.ireturn, 1) := by decide +kernel
theorem dX9_init_0 : decode cX9_init 0 = .ok (.aload_n 0, 1) := by decide +kernel
theorem dX9_init_1 : decode cX9_init 1 = .ok (.iload_n 1, 1) := by decide +kernel
theorem dX9_init_2 : decode cX9_init 2 = .ok (.iload_n 2, 1) := by decide +kernel
theorem dX9_init_3 : decode cX9_init 3 = .ok (.invokespecial 1, 3) := by decide +kernel
theorem dX9_init_6 : decode cX9_init 6 = .ok (.return_, 1) := by decide +kernel
theorem dX9_signOf_0 : decode cX9_signOf 0 = .ok (.iload_n 1, 1) := by decide +kernel
theorem dX9_signOf_1 : decode cX9_signOf 1 = .ok (.ireturn, 1) := by decide +kernel
theorem dX10_init_0 : decode cX10_init 0 = .ok (.aload_n 0, 1) := by decide +kernel
theorem dX10_init_1 : decode cX10_init 1 = .ok (.invokespecial 1, 3) := by decide +kernel
theorem dX10_init_4 : decode cX10_init 4 = .ok (.return_, 1) := by decide +kernel
theorem dX10_draw_0 : decode cX10_draw 0 = .ok (.aload_n 0, 1) := by decide +kernel
theorem dX10_draw_1 : decode cX10_draw 1 = .ok (.ldc2_w 7, 3) := by decide +kernel
theorem dX10_draw_4 : decode cX10_draw 4 = .ok (.aload_n 0, 1) := by decide +kernel
theorem dX10_draw_5 : decode cX10_draw 5 = .ok (.getfield 9, 3) := by decide +kernel
theorem dX10_draw_8 : decode cX10_draw 8 = .ok (.lmul, 1) := by decide +kernel
theorem dX10_draw_9 : decode cX10_draw 9 = .ok (.ldc2_w 15, 3) := by decide +kernel
theorem dX10_draw_12 : decode cX10_draw 12 = .ok (.ladd, 1) := by decide +kernel
theorem dX10_draw_13 : decode cX10_draw 13 = .ok (.ldc2_w 17, 3) := by decide +kernel
theorem dX10_draw_16 : decode cX10_draw 16 = .ok (.lrem, 1) := by decide +kernel
theorem dX10_draw_17 : decode cX10_draw 17 = .ok (.putfield 9, 3) := by decide +kernel
theorem dX10_draw_20 : decode cX10_draw 20 = .ok (.iload_n 1, 1) := by decide +kernel
theorem dX10_draw_21 : decode cX10_draw 21 = .ok (.iconst 1, 1) := by decide +kernel
theorem dX10_draw_22 : decode cX10_draw 22 = .ok (.if_icmp .ge 7, 3) := by decide +kernel
theorem dX10_draw_25 : decode cX10_draw 25 = .ok (.iconst 0, 1) := by decide +kernel
theorem dX10_draw_26 : decode cX10_draw 26 = .ok (.goto 15, 3) := by decide +kernel
theorem dX10_draw_29 : decode cX10_draw 29 = .ok (.aload_n 0, 1) := by decide +kernel
theorem dX10_draw_30 : decode cX10_draw 30 = .ok (.getfield 9, 3) := by decide +kernel
theorem dX10_draw_33 : decode cX10_draw 33 = .ok (.ldc2_w 19, 3) := by decide +kernel
theorem dX10_draw_36 : decode cX10_draw 36 = .ok (.ldiv, 1) := by decide +kernel
theorem dX10_draw_37 : decode cX10_draw 37 = .ok (.iload_n 1, 1) := by decide +kernel
theorem dX10_draw_38 : decode cX10_draw 38 = .ok (.i2l, 1) := by decide +kernel
theorem dX10_draw_39 : decode cX10_draw 39 = .ok (.lrem, 1) := by decide +kernel
theorem dX10_draw_40 : decode cX10_draw 40 = .ok (.l2i, 1) := by decide +kernel
theorem dX10_draw_41 : decode cX10_draw 41 = .ok (.ireturn, 1) := by decide +kernel
theorem dX11_init_0 : decode cX11_init 0 = .ok (.aload_n 0, 1) := by decide +kernel
theorem dX11_init_1 : decode cX11_init 1 = .ok (.invokespecial 1, 3) := by decide +kernel
theorem dX11_init_4 : decode cX11_init 4 = .ok (.aload_n 0, 1) := by decide +kernel
theorem dX11_init_5 : decode cX11_init 5 = .ok (.new 7, 3) := by decide +kernel
theorem dX11_init_8 : decode cX11_init 8 = .ok (.dup, 1) := by decide +kernel
theorem dX11_init_9 : decode cX11_init 9 = .ok (.invokespecial 9, 3) := by decide +kernel
theorem dX11_init_12 : decode cX11_init 12 = .ok (.putfield 10, 3) := by decide +kernel
theorem dX11_init_15 : decode cX11_init 15 = .ok (.aload_n 0, 1) := by decide +kernel
theorem dX11_init_16 : decode cX11_init 16 = .ok (.new 16, 3) := by decide +kernel
theorem dX11_init_19 : decode cX11_init 19 = .ok (.dup, 1) := by decide +kernel
theorem dX11_init_20 : decode cX11_init 20 = .ok (.invokespecial 18, 3) := by decide +kernel
theorem dX11_init_23 : decode cX11_init 23 = .ok (.putfield 19, 3) := by decide +kernel
theorem dX11_init_26 : decode cX11_init 26 = .ok (.aload_n 0, 1) := by decide +kernel
theorem dX11_init_27 : decode cX11_init 27 = .ok (.new 16, 3) := by decide +kernel
theorem dX11_init_30 : decode cX11_init 30 = .ok (.dup, 1) := by decide +kernel
theorem dX11_init_31 : decode cX11_init 31 = .ok (.invokespecial 18, 3) := by decide +kernel
theorem dX11_init_34 : decode cX11_init 34 = .ok (.putfield 23, 3) := by decide +kernel
theorem dX11_init_37 : decode cX11_init 37 = .ok (.aload_n 0, 1) := by decide +kernel
theorem dX11_init_38 : decode cX11_init 38 = .ok (.bipush 8, 2) := by decide +kernel
theorem dX11_init_40 : decode cX11_init 40 = .ok (.anewarray 26, 3) := by decide +kernel
theorem dX11_init_43 : decode cX11_init 43 = .ok (.putfield 28, 3) := by decide +kernel
theorem dX11_init_46 : decode cX11_init 46 = .ok (.aload_n 0, 1) := by decide +kernel
theorem dX11_init_47 : decode cX11_init 47 = .ok (.new 32, 3) := by decide +kernel
theorem dX11_init_50 : decode cX11_init 50 = .ok (.dup, 1) := by decide +kernel
theorem dX11_init_51 : decode cX11_init 51 = .ok (.invokespecial 34, 3) := by decide +kernel
theorem dX11_init_54 : decode cX11_init 54 = .ok (.putfield 35, 3) := by decide +kernel
theorem dX11_init_57 : decode cX11_init 57 = .ok (.aload_n 0, 1) := by decide +kernel
theorem dX11_init_58 : decode cX11_init 58 = .ok (.new 39, 3) := by decide +kernel
theorem dX11_init_61 : decode cX11_init 61 = .ok (.dup, 1) := by decide +kernel
theorem dX11_init_62 : decode cX11_init 62 = .ok (.invokespecial 41, 3) := by decide +kernel
theorem dX11_init_65 : decode cX11_init 65 = .ok (.putfield 42, 3) := by decide +kernel
theorem dX11_init_68 : decode cX11_init 68 = .ok (.aload_n 0, 1) := by decide +kernel
theorem dX11_init_69 : decode cX11_init 69 = .ok (.aload_n 0, 1) := by decide +kernel
theorem dX11_init_70 : decode cX11_init 70 = .ok (.getfield 42, 3) := by decide +kernel
theorem dX11_init_73 : decode cX11_init 73 = .ok (.getfield 46, 3) := by decide +kernel
theorem dX11_init_76 : decode cX11_init 76 = .ok (.putfield 50, 3) := by decide +kernel
theorem dX11_init_79 : decode cX11_init 79 = .ok (.aload_n 0, 1) := by decide +kernel
theorem dX11_init_80 : decode cX11_init 80 = .ok (.new 51, 3) := by decide +kernel
theorem dX11_init_83 : decode cX11_init 83 = .ok (.dup, 1) := by decide +kernel
theorem dX11_init_84 : decode cX11_init 84 = .ok (.invokespecial 53, 3) := by decide +kernel
theorem dX11_init_87 : decode cX11_init 87 = .ok (.putfield 54, 3) := by decide +kernel
theorem dX11_init_90 : decode cX11_init 90 = .ok (.aload_n 0, 1) := by decide +kernel
theorem dX11_init_91 : decode cX11_init 91 = .ok (.sipush 128, 3) := by decide +kernel
theorem dX11_init_94 : decode cX11_init 94 = .ok (.newarray .boolean, 2) := by decide +kernel
theorem dX11_init_96 : decode cX11_init 96 = .ok (.putfield 58, 3) := by decide +kernel
theorem dX11_init_99 : decode cX11_init 99 = .ok (.aload_n 0, 1) := by decide +kernel
theorem dX11_init_100 : decode cX11_init 100 = .ok (.sipush 512, 3) := by decide +kernel
theorem dX11_init_103 : decode cX11_init 103 = .ok (.newarray .int, 2) := by decide +kernel
theorem dX11_init_105 : decode cX11_init 105 = .ok (.putfield 62, 3) := by decide +kernel
theorem dX11_init_108 : decode cX11_init 108 = .ok (.aload_n 0, 1) := by decide +kernel
theorem dX11_init_109 : decode cX11_init 109 = .ok (.sipush 512, 3) := by decide +kernel
theorem dX11_init_112 : decode cX11_init 112 = .ok (.newarray .long, 2) := by decide +kernel
theorem dX11_init_114 : decode cX11_init 114 = .ok (.putfield 66, 3) := by decide +kernel
theorem dX11_init_117 : decode cX11_init 117 = .ok (.return_, 1) := by decide +kernel
theorem dX11_letters_0 : decode cX11_letters 0 = .ok (.lload_n 1, 1) := by decide +kernel
theorem dX11_letters_1 : decode cX11_letters 1 = .ok (.invokestatic 70, 3) := by decide +kernel
theorem dX11_letters_4 : decode cX11_letters 4 = .ok (.istore_n 3, 1) := by decide +kernel
theorem dX11_letters_5 : decode cX11_letters 5 = .ok (.iload_n 3, 1) := by decide +kernel
theorem dX11_letters_6 : decode cX11_letters 6 = .ok (.ifCond .ge 6, 3) := by decide +kernel
theorem dX11_letters_9 : decode cX11_letters 9 = .ok (.bipush (-102), 2) := by decide +kernel
theorem dX11_letters_11 : decode cX11_letters 11 = .ok (.ireturn, 1) := by decide +kernel
theorem dX11_letters_12 : decode cX11_letters 12 = .ok (.aload_n 0, 1) := by decide +kernel
theorem dX11_letters_13 : decode cX11_letters 13 = .ok (.getfield 10, 3) := by decide +kernel
theorem dX11_letters_16 : decode cX11_letters 16 = .ok (.lload_n 1, 1) := by decide +kernel
theorem dX11_letters_17 : decode cX11_letters 17 = .ok (.iload_n 3, 1) := by decide +kernel
theorem dX11_letters_18 : decode cX11_letters 18 = .ok (.invokevirtual 74, 3) := by decide +kernel
theorem dX11_letters_21 : decode cX11_letters 21 = .ok (.ifCond .eq 13, 3) := by decide +kernel
theorem dX11_letters_24 : decode cX11_letters 24 = .ok (.aload_n 0, 1) := by decide +kernel
theorem dX11_letters_25 : decode cX11_letters 25 = .ok (.getfield 10, 3) := by decide +kernel
theorem dX11_letters_28 : decode cX11_letters 28 = .ok (.getfield 78, 3) := by decide +kernel
theorem dX11_letters_31 : decode cX11_letters 31 = .ok (.goto 5, 3) := by decide +kernel
theorem dX11_letters_34 : decode cX11_letters 34 = .ok (.bipush (-104), 2) := by decide +kernel
theorem dX11_letters_36 : decode cX11_letters 36 = .ok (.ireturn, 1) := by decide +kernel
theorem dX11_blank_0 : decode cX11_blank 0 = .ok (.aload_n 0, 1) := by decide +kernel
theorem dX11_blank_1 : decode cX11_blank 1 = .ok (.getfield 10, 3) := by decide +kernel
theorem dX11_blank_4 : decode cX11_blank 4 = .ok (.getfield 78, 3) := by decide +kernel
theorem dX11_blank_7 : decode cX11_blank 7 = .ok (.istore_n 1, 1) := by decide +kernel
theorem dX11_blank_8 : decode cX11_blank 8 = .ok (.aload_n 0, 1) := by decide +kernel
theorem dX11_blank_9 : decode cX11_blank 9 = .ok (.getfield 10, 3) := by decide +kernel
theorem dX11_blank_12 : decode cX11_blank 12 = .ok (.iconst 0, 1) := by decide +kernel
theorem dX11_blank_13 : decode cX11_blank 13 = .ok (.putfield 78, 3) := by decide +kernel
theorem dX11_blank_16 : decode cX11_blank 16 = .ok (.iload_n 1, 1) := by decide +kernel
theorem dX11_blank_17 : decode cX11_blank 17 = .ok (.ireturn, 1) := by decide +kernel
theorem dX11_fault_0 : decode cX11_fault 0 = .ok (.aload_n 0, 1) := by decide +kernel
theorem dX11_fault_1 : decode cX11_fault 1 = .ok (.getfield 10, 3) := by decide +kernel
theorem dX11_fault_4 : decode cX11_fault 4 = .ok (.aload_n 0, 1) := by decide +kernel
theorem dX11_fault_5 : decode cX11_fault 5 = .ok (.getfield 23, 3) := by decide +kernel
theorem dX11_fault_8 : decode cX11_fault 8 = .ok (.invokevirtual 82, 3) := by decide +kernel
theorem dX11_fault_11 : decode cX11_fault 11 = .ok (.pop, 1) := by decide +kernel
theorem dX11_fault_12 : decode cX11_fault 12 = .ok (.aload_n 0, 1) := by decide +kernel
theorem dX11_fault_13 : decode cX11_fault 13 = .ok (.getfield 10, 3) := by decide +kernel
theorem dX11_fault_16 : decode cX11_fault 16 = .ok (.getfield 86, 3) := by decide +kernel
theorem dX11_fault_19 : decode cX11_fault 19 = .ok (.ireturn, 1) := by decide +kernel
theorem dX11_market_0 : decode cX11_market 0 = .ok (.aload_n 0, 1) := by decide +kernel
theorem dX11_market_1 : decode cX11_market 1 = .ok (.getfield 10, 3) := by decide +kernel
theorem dX11_market_4 : decode cX11_market 4 = .ok (.aload_n 0, 1) := by decide +kernel
theorem dX11_market_5 : decode cX11_market 5 = .ok (.getfield 23, 3) := by decide +kernel
theorem dX11_market_8 : decode cX11_market 8 = .ok (.invokevirtual 82, 3) := by decide +kernel
theorem dX11_market_11 : decode cX11_market 11 = .ok (.ifCond .ne 6, 3) := by decide +kernel
theorem dX11_market_14 : decode cX11_market 14 = .ok (.bipush (-103), 2) := by decide +kernel
theorem dX11_market_16 : decode cX11_market 16 = .ok (.ireturn, 1) := by decide +kernel
theorem dX11_market_17 : decode cX11_market 17 = .ok (.aload_n 0, 1) := by decide +kernel
theorem dX11_market_18 : decode cX11_market 18 = .ok (.getfield 19, 3) := by decide +kernel
theorem dX11_market_21 : decode cX11_market 21 = .ok (.astore_n 1, 1) := by decide +kernel
theorem dX11_market_22 : decode cX11_market 22 = .ok (.aload_n 0, 1) := by decide +kernel
theorem dX11_market_23 : decode cX11_market 23 = .ok (.aload_n 0, 1) := by decide +kernel
theorem dX11_market_24 : decode cX11_market 24 = .ok (.getfield 23, 3) := by decide +kernel
theorem dX11_market_27 : decode cX11_market 27 = .ok (.putfield 19, 3) := by decide +kernel
theorem dX11_market_30 : decode cX11_market 30 = .ok (.aload_n 0, 1) := by decide +kernel
theorem dX11_market_31 : decode cX11_market 31 = .ok (.aload_n 1, 1) := by decide +kernel
theorem dX11_market_32 : decode cX11_market 32 = .ok (.putfield 23, 3) := by decide +kernel
theorem dX11_market_35 : decode cX11_market 35 = .ok (.aload_n 0, 1) := by decide +kernel
theorem dX11_market_36 : decode cX11_market 36 = .ok (.iconst 1, 1) := by decide +kernel
theorem dX11_market_37 : decode cX11_market 37 = .ok (.putfield 89, 3) := by decide +kernel
theorem dX11_market_40 : decode cX11_market 40 = .ok (.aload_n 0, 1) := by decide +kernel
theorem dX11_market_41 : decode cX11_market 41 = .ok (.getfield 10, 3) := by decide +kernel
theorem dX11_market_44 : decode cX11_market 44 = .ok (.iconst 0, 1) := by decide +kernel
theorem dX11_market_45 : decode cX11_market 45 = .ok (.putfield 78, 3) := by decide +kernel
theorem dX11_market_48 : decode cX11_market 48 = .ok (.aload_n 0, 1) := by decide +kernel
theorem dX11_market_49 : decode cX11_market 49 = .ok (.invokevirtual 93, 3) := by decide +kernel
theorem dX11_market_52 : decode cX11_market 52 = .ok (.aload_n 0, 1) := by decide +kernel
theorem dX11_market_53 : decode cX11_market 53 = .ok (.getfield 19, 3) := by decide +kernel
theorem dX11_market_56 : decode cX11_market 56 = .ok (.getfield 96, 3) := by decide +kernel
theorem dX11_market_59 : decode cX11_market 59 = .ok (.ireturn, 1) := by decide +kernel
theorem dX11_told_0 : decode cX11_told 0 = .ok (.aload_n 0, 1) := by decide +kernel
theorem dX11_told_1 : decode cX11_told 1 = .ok (.getfield 89, 3) := by decide +kernel
theorem dX11_told_4 : decode cX11_told 4 = .ok (.ifCond .eq 16, 3) := by decide +kernel
theorem dX11_told_7 : decode cX11_told 7 = .ok (.iload_n 1, 1) := by decide +kernel
theorem dX11_told_8 : decode cX11_told 8 = .ok (.iconst (-1), 1) := by decide +kernel
theorem dX11_told_9 : decode cX11_told 9 = .ok (.if_icmp .eq 14, 3) := by decide +kernel
theorem dX11_told_12 : decode cX11_told 12 = .ok (.aload_n 0, 1) := by decide +kernel
theorem dX11_told_13 : decode cX11_told 13 = .ok (.iload_n 1, 1) := by decide +kernel
theorem dX11_told_14 : decode cX11_told 14 = .ok (.invokevirtual 99, 3) := by decide +kernel
theorem dX11_told_17 : decode cX11_told 17 = .ok (.ifCond .ne 6, 3) := by decide +kernel
theorem dX11_told_20 : decode cX11_told 20 = .ok (.bipush (-101), 2) := by decide +kernel
theorem dX11_told_22 : decode cX11_told 22 = .ok (.ireturn, 1) := by decide +kernel
theorem dX11_told_23 : decode cX11_told 23 = .ok (.iload_n 2, 1) := by decide +kernel
theorem dX11_told_24 : decode cX11_told 24 = .ok (.ifCond .eq 11, 3) := by decide +kernel
theorem dX11_told_27 : decode cX11_told 27 = .ok (.iload_n 2, 1) := by decide +kernel
theorem dX11_told_28 : decode cX11_told 28 = .ok (.iconst 1, 1) := by decide +kernel
theorem dX11_told_29 : decode cX11_told 29 = .ok (.if_icmp .eq 6, 3) := by decide +kernel
theorem dX11_told_32 : decode cX11_told 32 = .ok (.bipush (-102), 2) := by decide +kernel
theorem dX11_told_34 : decode cX11_told 34 = .ok (.ireturn, 1) := by decide +kernel
theorem dX11_told_35 : decode cX11_told 35 = .ok (.iload_n 1, 1) := by decide +kernel
theorem dX11_told_36 : decode cX11_told 36 = .ok (.iconst (-1), 1) := by decide +kernel
theorem dX11_told_37 : decode cX11_told 37 = .ok (.if_icmp .ne 25, 3) := by decide +kernel
theorem dX11_told_40 : decode cX11_told 40 = .ok (.iload_n 2, 1) := by decide +kernel
theorem dX11_told_41 : decode cX11_told 41 = .ok (.ifCond .ne 13, 3) := by decide +kernel
theorem dX11_told_44 : decode cX11_told 44 = .ok (.aload_n 0, 1) := by decide +kernel
theorem dX11_told_45 : decode cX11_told 45 = .ok (.getfield 19, 3) := by decide +kernel
theorem dX11_told_48 : decode cX11_told 48 = .ok (.getfield 103, 3) := by decide +kernel
theorem dX11_told_51 : decode cX11_told 51 = .ok (.goto 10, 3) := by decide +kernel
theorem dX11_told_54 : decode cX11_told 54 = .ok (.aload_n 0, 1) := by decide +kernel
theorem dX11_told_55 : decode cX11_told 55 = .ok (.getfield 19, 3) := by decide +kernel
theorem dX11_told_58 : decode cX11_told 58 = .ok (.getfield 106, 3) := by decide +kernel
theorem dX11_told_61 : decode cX11_told 61 = .ok (.ireturn, 1) := by decide +kernel
theorem dX11_told_62 : decode cX11_told 62 = .ok (.iload_n 2, 1) := by decide +kernel
theorem dX11_told_63 : decode cX11_told 63 = .ok (.ifCond .ne 14, 3) := by decide +kernel
theorem dX11_told_66 : decode cX11_told 66 = .ok (.aload_n 0, 1) := by decide +kernel
theorem dX11_told_67 : decode cX11_told 67 = .ok (.getfield 19, 3) := by decide +kernel
theorem dX11_told_70 : decode cX11_told 70 = .ok (.iload_n 1, 1) := by decide +kernel
theorem dX11_told_71 : decode cX11_told 71 = .ok (.invokevirtual 109, 3) := by decide +kernel
theorem dX11_told_74 : decode cX11_told 74 = .ok (.goto 11, 3) := by decide +kernel
theorem dX11_told_77 : decode cX11_told 77 = .ok (.aload_n 0, 1) := by decide +kernel
theorem dX11_told_78 : decode cX11_told 78 = .ok (.getfield 19, 3) := by decide +kernel
theorem dX11_told_81 : decode cX11_told 81 = .ok (.iload_n 1, 1) := by decide +kernel
theorem dX11_told_82 : decode cX11_told 82 = .ok (.invokevirtual 113, 3) := by decide +kernel
theorem dX11_told_85 : decode cX11_told 85 = .ok (.ireturn, 1) := by decide +kernel
theorem dX11_buyer_0 : decode cX11_buyer 0 = .ok (.iload_n 1, 1) := by decide +kernel
theorem dX11_buyer_1 : decode cX11_buyer 1 = .ok (.invokestatic 116, 3) := by decide +kernel
theorem dX11_buyer_4 : decode cX11_buyer 4 = .ok (.ifCond .eq 10, 3) := by decide +kernel
theorem dX11_buyer_7 : decode cX11_buyer 7 = .ok (.iload_n 2, 1) := by decide +kernel
theorem dX11_buyer_8 : decode cX11_buyer 8 = .ok (.invokestatic 121, 3) := by decide +kernel
theorem dX11_buyer_11 : decode cX11_buyer 11 = .ok (.ifCond .ne 6, 3) := by decide +kernel
theorem dX11_buyer_14 : decode cX11_buyer 14 = .ok (.bipush (-102), 2) := by decide +kernel
theorem dX11_buyer_16 : decode cX11_buyer 16 = .ok (.ireturn, 1) := by decide +kernel
theorem dX11_buyer_17 : decode cX11_buyer 17 = .ok (.aload_n 0, 1) := by decide +kernel
theorem dX11_buyer_18 : decode cX11_buyer 18 = .ok (.getfield 50, 3) := by decide +kernel
theorem dX11_buyer_21 : decode cX11_buyer 21 = .ok (.iload_n 1, 1) := by decide +kernel
theorem dX11_buyer_22 : decode cX11_buyer 22 = .ok (.iload_n 2, 1) := by decide +kernel
theorem dX11_buyer_23 : decode cX11_buyer 23 = .ok (.invokevirtual 124, 3) := by decide +kernel
theorem dX11_buyer_26 : decode cX11_buyer 26 = .ok (.istore_n 3, 1) := by decide +kernel
theorem dX11_buyer_27 : decode cX11_buyer 27 = .ok (.iload_n 3, 1) := by decide +kernel
theorem dX11_buyer_28 : decode cX11_buyer 28 = .ok (.iconst (-1), 1) := by decide +kernel
theorem dX11_buyer_29 : decode cX11_buyer 29 = .ok (.if_icmp .ne 6, 3) := by decide +kernel
theorem dX11_buyer_32 : decode cX11_buyer 32 = .ok (.bipush (-104), 2) := by decide +kernel
theorem dX11_buyer_34 : decode cX11_buyer 34 = .ok (.ireturn, 1) := by decide +kernel
theorem dX11_buyer_35 : decode cX11_buyer 35 = .ok (.aload_n 0, 1) := by decide +kernel
theorem dX11_buyer_36 : decode cX11_buyer 36 = .ok (.invokevirtual 93, 3) := by decide +kernel
theorem dX11_buyer_39 : decode cX11_buyer 39 = .ok (.iload_n 3, 1) := by decide +kernel
theorem dX11_buyer_40 : decode cX11_buyer 40 = .ok (.ireturn, 1) := by decide +kernel
theorem dX11_change_0 : decode cX11_change 0 = .ok (.aload_n 0, 1) := by decide +kernel
theorem dX11_change_1 : decode cX11_change 1 = .ok (.getfield 50, 3) := by decide +kernel
theorem dX11_change_4 : decode cX11_change 4 = .ok (.iload_n 1, 1) := by decide +kernel
theorem dX11_change_5 : decode cX11_change 5 = .ok (.invokevirtual 127, 3) := by decide +kernel
theorem dX11_change_8 : decode cX11_change 8 = .ok (.ifCond .ne 6, 3) := by decide +kernel
theorem dX11_change_11 : decode cX11_change 11 = .ok (.bipush (-101), 2) := by decide +kernel
theorem dX11_change_13 : decode cX11_change 13 = .ok (.ireturn, 1) := by decide +kernel
theorem dX11_change_14 : decode cX11_change 14 = .ok (.iload_n 2, 1) := by decide +kernel
theorem dX11_change_15 : decode cX11_change 15 = .ok (.ifCond .ne 10, 3) := by decide +kernel
theorem dX11_change_18 : decode cX11_change 18 = .ok (.iload_n 3, 1) := by decide +kernel
theorem dX11_change_19 : decode cX11_change 19 = .ok (.invokestatic 116, 3) := by decide +kernel
theorem dX11_change_22 : decode cX11_change 22 = .ok (.ifCond .ne 15, 3) := by decide +kernel
theorem dX11_change_25 : decode cX11_change 25 = .ok (.iload_n 2, 1) := by decide +kernel
theorem dX11_change_26 : decode cX11_change 26 = .ok (.iconst 1, 1) := by decide +kernel
theorem dX11_change_27 : decode cX11_change 27 = .ok (.if_icmp .ne 14, 3) := by decide +kernel
theorem dX11_change_30 : decode cX11_change 30 = .ok (.iload_n 3, 1) := by decide +kernel
theorem dX11_change_31 : decode cX11_change 31 = .ok (.invokestatic 121, 3) := by decide +kernel
theorem dX11_change_34 : decode cX11_change 34 = .ok (.ifCond .eq 7, 3) := by decide +kernel
theorem dX11_change_37 : decode cX11_change 37 = .ok (.iconst 1, 1) := by decide +kernel
theorem dX11_change_38 : decode cX11_change 38 = .ok (.goto 4, 3) := by decide +kernel
theorem dX11_change_41 : decode cX11_change 41 = .ok (.iconst 0, 1) := by decide +kernel
theorem dX11_change_42 : decode cX11_change 42 = .ok (.istore 4, 2) := by decide +kernel
theorem dX11_change_44 : decode cX11_change 44 = .ok (.iload 4, 2) := by decide +kernel
theorem dX11_change_46 : decode cX11_change 46 = .ok (.ifCond .ne 6, 3) := by decide +kernel
theorem dX11_change_49 : decode cX11_change 49 = .ok (.bipush (-102), 2) := by decide +kernel
theorem dX11_change_51 : decode cX11_change 51 = .ok (.ireturn, 1) := by decide +kernel
theorem dX11_change_52 : decode cX11_change 52 = .ok (.aload_n 0, 1) := by decide +kernel
theorem dX11_change_53 : decode cX11_change 53 = .ok (.invokevirtual 93, 3) := by decide +kernel
theorem dX11_change_56 : decode cX11_change 56 = .ok (.iload_n 2, 1) := by decide +kernel
theorem dX11_change_57 : decode cX11_change 57 = .ok (.ifCond .ne 15, 3) := by decide +kernel
theorem dX11_change_60 : decode cX11_change 60 = .ok (.aload_n 0, 1) := by decide +kernel
theorem dX11_change_61 : decode cX11_change 61 = .ok (.getfield 50, 3) := by decide +kernel
theorem dX11_change_64 : decode cX11_change 64 = .ok (.iload_n 1, 1) := by decide +kernel
theorem dX11_change_65 : decode cX11_change 65 = .ok (.iload_n 3, 1) := by decide +kernel
theorem dX11_change_66 : decode cX11_change 66 = .ok (.invokevirtual 130, 3) := by decide +kernel
theorem dX11_change_69 : decode cX11_change 69 = .ok (.goto 12, 3) := by decide +kernel
theorem dX11_change_72 : decode cX11_change 72 = .ok (.aload_n 0, 1) := by decide +kernel
theorem dX11_change_73 : decode cX11_change 73 = .ok (.getfield 50, 3) := by decide +kernel
theorem dX11_change_76 : decode cX11_change 76 = .ok (.iload_n 1, 1) := by decide +kernel
theorem dX11_change_77 : decode cX11_change 77 = .ok (.iload_n 3, 1) := by decide +kernel
theorem dX11_change_78 : decode cX11_change 78 = .ok (.invokevirtual 133, 3) := by decide +kernel
theorem dX11_change_81 : decode cX11_change 81 = .ok (.ireturn, 1) := by decide +kernel
theorem dX11_news_0 : decode cX11_news 0 = .ok (.iload_n 1, 1) := by decide +kernel
theorem dX11_news_1 : decode cX11_news 1 = .ok (.ifCond .lt 20, 3) := by decide +kernel
theorem dX11_news_4 : decode cX11_news 4 = .ok (.iload_n 1, 1) := by decide +kernel
theorem dX11_news_5 : decode cX11_news 5 = .ok (.iconst 5, 1) := by decide +kernel
theorem dX11_news_6 : decode cX11_news 6 = .ok (.if_icmp .ge 15, 3) := by decide +kernel
theorem dX11_news_9 : decode cX11_news 9 = .ok (.iload_n 2, 1) := by decide +kernel
theorem dX11_news_10 : decode cX11_news 10 = .ok (.ifCond .lt 11, 3) := by decide +kernel
theorem dX11_news_13 : decode cX11_news 13 = .ok (.iload_n 2, 1) := by decide +kernel
theorem dX11_news_14 : decode cX11_news 14 = .ok (.iload_n 1, 1) := by decide +kernel
theorem dX11_news_15 : decode cX11_news 15 = .ok (.invokestatic 136, 3) := by decide +kernel
theorem dX11_news_18 : decode cX11_news 18 = .ok (.if_icmp .le 6, 3) := by decide +kernel
theorem dX11_news_21 : decode cX11_news 21 = .ok (.bipush (-102), 2) := by decide +kernel
theorem dX11_news_23 : decode cX11_news 23 = .ok (.ireturn, 1) := by decide +kernel
theorem dX11_news_24 : decode cX11_news 24 = .ok (.aload_n 0, 1) := by decide +kernel
theorem dX11_news_25 : decode cX11_news 25 = .ok (.getfield 139, 3) := by decide +kernel
theorem dX11_news_28 : decode cX11_news 28 = .ok (.ifCond .lt 15, 3) := by decide +kernel
theorem dX11_news_31 : decode cX11_news 31 = .ok (.aload_n 0, 1) := by decide +kernel
theorem dX11_news_32 : decode cX11_news 32 = .ok (.getfield 139, 3) := by decide +kernel
theorem dX11_news_35 : decode cX11_news 35 = .ok (.aload_n 0, 1) := by decide +kernel
theorem dX11_news_36 : decode cX11_news 36 = .ok (.getfield 28, 3) := by decide +kernel
theorem dX11_news_39 : decode cX11_news 39 = .ok (.arraylength, 1) := by decide +kernel
theorem dX11_news_40 : decode cX11_news 40 = .ok (.if_icmp .lt 6, 3) := by decide +kernel
theorem dX11_news_43 : decode cX11_news 43 = .ok (.bipush (-104), 2) := by decide +kernel
theorem dX11_news_45 : decode cX11_news 45 = .ok (.ireturn, 1) := by decide +kernel
theorem dX11_news_46 : decode cX11_news 46 = .ok (.aload_n 0, 1) := by decide +kernel
theorem dX11_news_47 : decode cX11_news 47 = .ok (.getfield 28, 3) := by decide +kernel
theorem dX11_news_50 : decode cX11_news 50 = .ok (.aload_n 0, 1) := by decide +kernel
theorem dX11_news_51 : decode cX11_news 51 = .ok (.getfield 139, 3) := by decide +kernel
theorem dX11_news_54 : decode cX11_news 54 = .ok (.iload_n 1, 1) := by decide +kernel
theorem dX11_news_55 : decode cX11_news 55 = .ok (.iload_n 2, 1) := by decide +kernel
theorem dX11_news_56 : decode cX11_news 56 = .ok (.invokestatic 142, 3) := by decide +kernel
theorem dX11_news_59 : decode cX11_news 59 = .ok (.aastore, 1) := by decide +kernel
theorem dX11_news_60 : decode cX11_news 60 = .ok (.aload_n 0, 1) := by decide +kernel
theorem dX11_news_61 : decode cX11_news 61 = .ok (.dup, 1) := by decide +kernel
theorem dX11_news_62 : decode cX11_news 62 = .ok (.getfield 139, 3) := by decide +kernel
theorem dX11_news_65 : decode cX11_news 65 = .ok (.dup_x1, 1) := by decide +kernel
theorem dX11_news_66 : decode cX11_news 66 = .ok (.iconst 1, 1) := by decide +kernel
theorem dX11_news_67 : decode cX11_news 67 = .ok (.iadd, 1) := by decide +kernel
theorem dX11_news_68 : decode cX11_news 68 = .ok (.putfield 139, 3) := by decide +kernel
theorem dX11_news_71 : decode cX11_news 71 = .ok (.ireturn, 1) := by decide +kernel
theorem dX11_as_0 : decode cX11_as 0 = .ok (.aload_n 0, 1) := by decide +kernel
theorem dX11_as_1 : decode cX11_as 1 = .ok (.iload_n 1, 1) := by decide +kernel
theorem dX11_as_2 : decode cX11_as 2 = .ok (.invokevirtual 146, 3) := by decide +kernel
theorem dX11_as_5 : decode cX11_as 5 = .ok (.astore_n 3, 1) := by decide +kernel
theorem dX11_as_6 : decode cX11_as 6 = .ok (.aload_n 3, 1) := by decide +kernel
theorem dX11_as_7 : decode cX11_as 7 = .ok (.ifnonnull 6, 3) := by decide +kernel
theorem dX11_as_10 : decode cX11_as 10 = .ok (.bipush (-101), 2) := by decide +kernel
theorem dX11_as_12 : decode cX11_as 12 = .ok (.ireturn, 1) := by decide +kernel
