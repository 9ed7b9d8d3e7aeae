theorem dX0_init_0 : decode cX0_init 0 = .ok (.aload_n 0, 1) := by decide +kernel
theorem dX0_init_1 : decode cX0_init 1 = .ok (.invokespecial 3, 3) := by decide +kernel
theorem dX0_init_4 : decode cX0_init 4 = .ok (.aload_n 0, 1) := by decide +kernel
theorem dX0_init_5 : decode cX0_init 5 = .ok (.new 9, 3) := by decide +kernel
theorem dX0_init_8 : decode cX0_init 8 = .ok (.dup, 1) := by decide +kernel
theorem dX0_init_9 : decode cX0_init 9 = .ok (.invokespecial 11, 3) := by decide +kernel
theorem dX0_init_12 : decode cX0_init 12 = .ok (.putfield 12, 3) := by decide +kernel
theorem dX0_init_15 : decode cX0_init 15 = .ok (.aload_n 0, 1) := by decide +kernel
theorem dX0_init_16 : decode cX0_init 16 = .ok (.new 18, 3) := by decide +kernel
theorem dX0_init_19 : decode cX0_init 19 = .ok (.dup, 1) := by decide +kernel
theorem dX0_init_20 : decode cX0_init 20 = .ok (.invokespecial 20, 3) := by decide +kernel
theorem dX0_init_23 : decode cX0_init 23 = .ok (.putfield 21, 3) := by decide +kernel
theorem dX0_init_26 : decode cX0_init 26 = .ok (.return_, 1) := by decide +kernel
theorem dX0_count_0 : decode cX0_count 0 = .ok (.aload_n 0, 1) := by decide +kernel
theorem dX0_count_1 : decode cX0_count 1 = .ok (.getfield 21, 3) := by decide +kernel
theorem dX0_count_4 : decode cX0_count 4 = .ok (.getfield 25, 3) := by decide +kernel
theorem dX0_count_7 : decode cX0_count 7 = .ok (.iload_n 1, 1) := by decide +kernel
theorem dX0_count_8 : decode cX0_count 8 = .ok (.iaload, 1) := by decide +kernel
theorem dX0_count_9 : decode cX0_count 9 = .ok (.ireturn, 1) := by decide +kernel
theorem dX0_errs_0 : decode cX0_errs 0 = .ok (.aload_n 0, 1) := by decide +kernel
theorem dX0_errs_1 : decode cX0_errs 1 = .ok (.iconst 0, 1) := by decide +kernel
theorem dX0_errs_2 : decode cX0_errs 2 = .ok (.invokevirtual 29, 3) := by decide +kernel
theorem dX0_errs_5 : decode cX0_errs 5 = .ok (.ifCond .ne 7, 3) := by decide +kernel
theorem dX0_errs_8 : decode cX0_errs 8 = .ok (.iconst 0, 1) := by decide +kernel
theorem dX0_errs_9 : decode cX0_errs 9 = .ok (.goto 13, 3) := by decide +kernel
theorem dX0_errs_12 : decode cX0_errs 12 = .ok (.aload_n 0, 1) := by decide +kernel
theorem dX0_errs_13 : decode cX0_errs 13 = .ok (.getfield 21, 3) := by decide +kernel
theorem dX0_errs_16 : decode cX0_errs 16 = .ok (.iconst 0, 1) := by decide +kernel
theorem dX0_errs_17 : decode cX0_errs 17 = .ok (.iconst 0, 1) := by decide +kernel
theorem dX0_errs_18 : decode cX0_errs 18 = .ok (.iconst 0, 1) := by decide +kernel
theorem dX0_errs_19 : decode cX0_errs 19 = .ok (.invokevirtual 32, 3) := by decide +kernel
theorem dX0_errs_22 : decode cX0_errs 22 = .ok (.ireturn, 1) := by decide +kernel
theorem dX0_weight_0 : decode cX0_weight 0 = .ok (.aload_n 0, 1) := by decide +kernel
theorem dX0_weight_1 : decode cX0_weight 1 = .ok (.getfield 21, 3) := by decide +kernel
theorem dX0_weight_4 : decode cX0_weight 4 = .ok (.iconst 4, 1) := by decide +kernel
theorem dX0_weight_5 : decode cX0_weight 5 = .ok (.iload_n 1, 1) := by decide +kernel
theorem dX0_weight_6 : decode cX0_weight 6 = .ok (.iconst 0, 1) := by decide +kernel
theorem dX0_weight_7 : decode cX0_weight 7 = .ok (.invokevirtual 32, 3) := by decide +kernel
theorem dX0_weight_10 : decode cX0_weight 10 = .ok (.ireturn, 1) := by decide +kernel
theorem dX0_mark_0 : decode cX0_mark 0 = .ok (.iload_n 2, 1) := by decide +kernel
theorem dX0_mark_1 : decode cX0_mark 1 = .ok (.iconst 3, 1) := by decide +kernel
theorem dX0_mark_2 : decode cX0_mark 2 = .ok (.if_icmp .ne 17, 3) := by decide +kernel
theorem dX0_mark_5 : decode cX0_mark 5 = .ok (.aload_n 0, 1) := by decide +kernel
theorem dX0_mark_6 : decode cX0_mark 6 = .ok (.getfield 12, 3) := by decide +kernel
theorem dX0_mark_9 : decode cX0_mark 9 = .ok (.getfield 36, 3) := by decide +kernel
theorem dX0_mark_12 : decode cX0_mark 12 = .ok (.iload_n 1, 1) := by decide +kernel
theorem dX0_mark_13 : decode cX0_mark 13 = .ok (.ishr, 1) := by decide +kernel
theorem dX0_mark_14 : decode cX0_mark 14 = .ok (.iconst 1, 1) := by decide +kernel
theorem dX0_mark_15 : decode cX0_mark 15 = .ok (.iand, 1) := by decide +kernel
theorem dX0_mark_16 : decode cX0_mark 16 = .ok (.goto 13, 3) := by decide +kernel
theorem dX0_mark_19 : decode cX0_mark 19 = .ok (.aload_n 0, 1) := by decide +kernel
theorem dX0_mark_20 : decode cX0_mark 20 = .ok (.getfield 21, 3) := by decide +kernel
theorem dX0_mark_23 : decode cX0_mark 23 = .ok (.iconst 1, 1) := by decide +kernel
theorem dX0_mark_24 : decode cX0_mark 24 = .ok (.iload_n 1, 1) := by decide +kernel
theorem dX0_mark_25 : decode cX0_mark 25 = .ok (.iload_n 2, 1) := by decide +kernel
theorem dX0_mark_26 : decode cX0_mark 26 = .ok (.invokevirtual 32, 3) := by decide +kernel
theorem dX0_mark_29 : decode cX0_mark 29 = .ok (.ireturn, 1) := by decide +kernel
theorem dX0_holds_0 : decode cX0_holds 0 = .ok (.aload_n 0, 1) := by decide +kernel
theorem dX0_holds_1 : decode cX0_holds 1 = .ok (.iload_n 1, 1) := by decide +kernel
theorem dX0_holds_2 : decode cX0_holds 2 = .ok (.iconst 0, 1) := by decide +kernel
theorem dX0_holds_3 : decode cX0_holds 3 = .ok (.invokevirtual 40, 3) := by decide +kernel
theorem dX0_holds_6 : decode cX0_holds 6 = .ok (.iconst 1, 1) := by decide +kernel
theorem dX0_holds_7 : decode cX0_holds 7 = .ok (.iadd, 1) := by decide +kernel
theorem dX0_holds_8 : decode cX0_holds 8 = .ok (.aload_n 0, 1) := by decide +kernel
theorem dX0_holds_9 : decode cX0_holds 9 = .ok (.iload_n 1, 1) := by decide +kernel
theorem dX0_holds_10 : decode cX0_holds 10 = .ok (.iconst 1, 1) := by decide +kernel
theorem dX0_holds_11 : decode cX0_holds 11 = .ok (.invokevirtual 40, 3) := by decide +kernel
theorem dX0_holds_14 : decode cX0_holds 14 = .ok (.imul, 1) := by decide +kernel
theorem dX0_holds_15 : decode cX0_holds 15 = .ok (.istore_n 2, 1) := by decide +kernel
theorem dX0_holds_16 : decode cX0_holds 16 = .ok (.aload_n 0, 1) := by decide +kernel
theorem dX0_holds_17 : decode cX0_holds 17 = .ok (.iload_n 1, 1) := by decide +kernel
theorem dX0_holds_18 : decode cX0_holds 18 = .ok (.iconst 3, 1) := by decide +kernel
theorem dX0_holds_19 : decode cX0_holds 19 = .ok (.invokevirtual 40, 3) := by decide +kernel
theorem dX0_holds_22 : decode cX0_holds 22 = .ok (.iconst 1, 1) := by decide +kernel
theorem dX0_holds_23 : decode cX0_holds 23 = .ok (.if_icmp .ne 13, 3) := by decide +kernel
theorem dX0_holds_26 : decode cX0_holds 26 = .ok (.iconst 0, 1) := by decide +kernel
theorem dX0_holds_27 : decode cX0_holds 27 = .ok (.iload_n 2, 1) := by decide +kernel
theorem dX0_holds_28 : decode cX0_holds 28 = .ok (.iconst 5, 1) := by decide +kernel
theorem dX0_holds_29 : decode cX0_holds 29 = .ok (.isub, 1) := by decide +kernel
theorem dX0_holds_30 : decode cX0_holds 30 = .ok (.invokestatic 44, 3) := by decide +kernel
theorem dX0_holds_33 : decode cX0_holds 33 = .ok (.goto 4, 3) := by decide +kernel
theorem dX0_holds_36 : decode cX0_holds 36 = .ok (.iload_n 2, 1) := by decide +kernel
theorem dX0_holds_37 : decode cX0_holds 37 = .ok (.ireturn, 1) := by decide +kernel
theorem dX0_from_0 : decode cX0_from 0 = .ok (.iconst 0, 1) := by decide +kernel
theorem dX0_from_1 : decode cX0_from 1 = .ok (.istore_n 3, 1) := by decide +kernel
theorem dX0_from_2 : decode cX0_from 2 = .ok (.iconst 0, 1) := by decide +kernel
theorem dX0_from_3 : decode cX0_from 3 = .ok (.istore 4, 2) := by decide +kernel
theorem dX0_from_5 : decode cX0_from 5 = .ok (.iload 4, 2) := by decide +kernel
theorem dX0_from_7 : decode cX0_from 7 = .ok (.aload_n 0, 1) := by decide +kernel
theorem dX0_from_8 : decode cX0_from 8 = .ok (.iconst 1, 1) := by decide +kernel
theorem dX0_from_9 : decode cX0_from 9 = .ok (.invokevirtual 29, 3) := by decide +kernel
theorem dX0_from_12 : decode cX0_from 12 = .ok (.if_icmp .ge 44, 3) := by decide +kernel
theorem dX0_from_15 : decode cX0_from 15 = .ok (.aload_n 0, 1) := by decide +kernel
theorem dX0_from_16 : decode cX0_from 16 = .ok (.getfield 12, 3) := by decide +kernel
theorem dX0_from_19 : decode cX0_from 19 = .ok (.getfield 49, 3) := by decide +kernel
theorem dX0_from_22 : decode cX0_from 22 = .ok (.iload 4, 2) := by decide +kernel
theorem dX0_from_24 : decode cX0_from 24 = .ok (.iaload, 1) := by decide +kernel
theorem dX0_from_25 : decode cX0_from 25 = .ok (.iload_n 1, 1) := by decide +kernel
theorem dX0_from_26 : decode cX0_from 26 = .ok (.if_icmp .lt 24, 3) := by decide +kernel
theorem dX0_from_29 : decode cX0_from 29 = .ok (.aload_n 0, 1) := by decide +kernel
theorem dX0_from_30 : decode cX0_from 30 = .ok (.getfield 12, 3) := by decide +kernel
theorem dX0_from_33 : decode cX0_from 33 = .ok (.getfield 49, 3) := by decide +kernel
theorem dX0_from_36 : decode cX0_from 36 = .ok (.iload 4, 2) := by decide +kernel
theorem dX0_from_38 : decode cX0_from 38 = .ok (.iaload, 1) := by decide +kernel
theorem dX0_from_39 : decode cX0_from 39 = .ok (.iload_n 2, 1) := by decide +kernel
theorem dX0_from_40 : decode cX0_from 40 = .ok (.if_icmp .ge 10, 3) := by decide +kernel
theorem dX0_from_43 : decode cX0_from 43 = .ok (.iload_n 3, 1) := by decide +kernel
theorem dX0_from_44 : decode cX0_from 44 = .ok (.iconst 1, 1) := by decide +kernel
theorem dX0_from_45 : decode cX0_from 45 = .ok (.iload 4, 2) := by decide +kernel
theorem dX0_from_47 : decode cX0_from 47 = .ok (.ishl, 1) := by decide +kernel
theorem dX0_from_48 : decode cX0_from 48 = .ok (.ior, 1) := by decide +kernel
theorem dX0_from_49 : decode cX0_from 49 = .ok (.istore_n 3, 1) := by decide +kernel
theorem dX0_from_50 : decode cX0_from 50 = .ok (.iinc 4 1, 3) := by decide +kernel
theorem dX0_from_53 : decode cX0_from 53 = .ok (.goto (-48), 3) := by decide +kernel
theorem dX0_from_56 : decode cX0_from 56 = .ok (.iload_n 3, 1) := by decide +kernel
theorem dX0_from_57 : decode cX0_from 57 = .ok (.ireturn, 1) := by decide +kernel
theorem dX0_at_0 : decode cX0_at 0 = .ok (.aload_n 0, 1) := by decide +kernel
theorem dX0_at_1 : decode cX0_at 1 = .ok (.iload_n 1, 1) := by decide +kernel
theorem dX0_at_2 : decode cX0_at 2 = .ok (.iload_n 1, 1) := by decide +kernel
theorem dX0_at_3 : decode cX0_at 3 = .ok (.iconst 1, 1) := by decide +kernel
theorem dX0_at_4 : decode cX0_at 4 = .ok (.iadd, 1) := by decide +kernel
theorem dX0_at_5 : decode cX0_at 5 = .ok (.invokevirtual 52, 3) := by decide +kernel
theorem dX0_at_8 : decode cX0_at 8 = .ok (.ireturn, 1) := by decide +kernel
theorem dX0_isSewn_0 : decode cX0_isSewn 0 = .ok (.aload_n 0, 1) := by decide +kernel
theorem dX0_isSewn_1 : decode cX0_isSewn 1 = .ok (.getfield 12, 3) := by decide +kernel
theorem dX0_isSewn_4 : decode cX0_isSewn 4 = .ok (.getfield 49, 3) := by decide +kernel
theorem dX0_isSewn_7 : decode cX0_isSewn 7 = .ok (.iload_n 1, 1) := by decide +kernel
theorem dX0_isSewn_8 : decode cX0_isSewn 8 = .ok (.iaload, 1) := by decide +kernel
theorem dX0_isSewn_9 : decode cX0_isSewn 9 = .ok (.bipush 8, 2) := by decide +kernel
theorem dX0_isSewn_11 : decode cX0_isSewn 11 = .ok (.if_icmp .lt 7, 3) := by decide +kernel
theorem dX0_isSewn_14 : decode cX0_isSewn 14 = .ok (.iconst 1, 1) := by decide +kernel
theorem dX0_isSewn_15 : decode cX0_isSewn 15 = .ok (.goto 4, 3) := by decide +kernel
theorem dX0_isSewn_18 : decode cX0_isSewn 18 = .ok (.iconst 0, 1) := by decide +kernel
theorem dX0_isSewn_19 : decode cX0_isSewn 19 = .ok (.ireturn, 1) := by decide +kernel
theorem dX0_heapOf_0 : decode cX0_heapOf 0 = .ok (.aload_n 0, 1) := by decide +kernel
theorem dX0_heapOf_1 : decode cX0_heapOf 1 = .ok (.getfield 12, 3) := by decide +kernel
theorem dX0_heapOf_4 : decode cX0_heapOf 4 = .ok (.getfield 49, 3) := by decide +kernel
theorem dX0_heapOf_7 : decode cX0_heapOf 7 = .ok (.iload_n 1, 1) := by decide +kernel
theorem dX0_heapOf_8 : decode cX0_heapOf 8 = .ok (.iaload, 1) := by decide +kernel
theorem dX0_heapOf_9 : decode cX0_heapOf 9 = .ok (.bipush 6, 2) := by decide +kernel
theorem dX0_heapOf_11 : decode cX0_heapOf 11 = .ok (.if_icmp .ge 15, 3) := by decide +kernel
theorem dX0_heapOf_14 : decode cX0_heapOf 14 = .ok (.aload_n 0, 1) := by decide +kernel
theorem dX0_heapOf_15 : decode cX0_heapOf 15 = .ok (.getfield 12, 3) := by decide +kernel
theorem dX0_heapOf_18 : decode cX0_heapOf 18 = .ok (.getfield 49, 3) := by decide +kernel
theorem dX0_heapOf_21 : decode cX0_heapOf 21 = .ok (.iload_n 1, 1) := by decide +kernel
theorem dX0_heapOf_22 : decode cX0_heapOf 22 = .ok (.iaload, 1) := by decide +kernel
theorem dX0_heapOf_23 : decode cX0_heapOf 23 = .ok (.goto 4, 3) := by decide +kernel
theorem dX0_heapOf_26 : decode cX0_heapOf 26 = .ok (.iconst (-1), 1) := by decide +kernel
theorem dX0_heapOf_27 : decode cX0_heapOf 27 = .ok (.ireturn, 1) := by decide +kernel
theorem dX0_sewnTo_0 : decode cX0_sewnTo 0 = .ok (.aload_n 0, 1) := by decide +kernel
theorem dX0_sewnTo_1 : decode cX0_sewnTo 1 = .ok (.bipush 8, 2) := by decide +kernel
theorem dX0_sewnTo_3 : decode cX0_sewnTo 3 = .ok (.iload_n 1, 1) := by decide +kernel
theorem dX0_sewnTo_4 : decode cX0_sewnTo 4 = .ok (.iadd, 1) := by decide +kernel
theorem dX0_sewnTo_5 : decode cX0_sewnTo 5 = .ok (.invokevirtual 55, 3) := by decide +kernel
theorem dX0_sewnTo_8 : decode cX0_sewnTo 8 = .ok (.istore_n 2, 1) := by decide +kernel
theorem dX0_sewnTo_9 : decode cX0_sewnTo 9 = .ok (.iload_n 2, 1) := by decide +kernel
theorem dX0_sewnTo_10 : decode cX0_sewnTo 10 = .ok (.ifCond .ne 7, 3) := by decide +kernel
theorem dX0_sewnTo_13 : decode cX0_sewnTo 13 = .ok (.iconst (-1), 1) := by decide +kernel
theorem dX0_sewnTo_14 : decode cX0_sewnTo 14 = .ok (.goto 7, 3) := by decide +kernel
theorem dX0_sewnTo_17 : decode cX0_sewnTo 17 = .ok (.iload_n 2, 1) := by decide +kernel
theorem dX0_sewnTo_18 : decode cX0_sewnTo 18 = .ok (.invokestatic 58, 3) := by decide +kernel
theorem dX0_sewnTo_21 : decode cX0_sewnTo 21 = .ok (.ireturn, 1) := by decide +kernel
theorem dX0_placeOfRule_0 : decode cX0_placeOfRule 0 = .ok (.iconst 0, 1) := by decide +kernel
theorem dX0_placeOfRule_1 : decode cX0_placeOfRule 1 = .ok (.istore_n 2, 1) := by decide +kernel
theorem dX0_placeOfRule_2 : decode cX0_placeOfRule 2 = .ok (.iload_n 2, 1) := by decide +kernel
theorem dX0_placeOfRule_3 : decode cX0_placeOfRule 3 = .ok (.aload_n 0, 1) := by decide +kernel
theorem dX0_placeOfRule_4 : decode cX0_placeOfRule 4 = .ok (.iconst 2, 1) := by decide +kernel
theorem dX0_placeOfRule_5 : decode cX0_placeOfRule 5 = .ok (.invokevirtual 29, 3) := by decide +kernel
theorem dX0_placeOfRule_8 : decode cX0_placeOfRule 8 = .ok (.if_icmp .ge 24, 3) := by decide +kernel
theorem dX0_placeOfRule_11 : decode cX0_placeOfRule 11 = .ok (.aload_n 0, 1) := by decide +kernel
theorem dX0_placeOfRule_12 : decode cX0_placeOfRule 12 = .ok (.getfield 12, 3) := by decide +kernel
theorem dX0_placeOfRule_15 : decode cX0_placeOfRule 15 = .ok (.getfield 63, 3) := by decide +kernel
theorem dX0_placeOfRule_18 : decode cX0_placeOfRule 18 = .ok (.iload_n 2, 1) := by decide +kernel
theorem dX0_placeOfRule_19 : decode cX0_placeOfRule 19 = .ok (.iaload, 1) := by decide +kernel
theorem dX0_placeOfRule_20 : decode cX0_placeOfRule 20 = .ok (.iload_n 1, 1) := by decide +kernel
theorem dX0_placeOfRule_21 : decode cX0_placeOfRule 21 = .ok (.if_icmp .ne 5, 3) := by decide +kernel
theorem dX0_placeOfRule_24 : decode cX0_placeOfRule 24 = .ok (.iload_n 2, 1) := by decide +kernel
theorem dX0_placeOfRule_25 : decode cX0_placeOfRule 25 = .ok (.ireturn, 1) := by decide +kernel
theorem dX0_placeOfRule_26 : decode cX0_placeOfRule 26 = .ok (.iinc 2 1, 3) := by decide +kernel
theorem dX0_placeOfRule_29 : decode cX0_placeOfRule 29 = .ok (.goto (-27), 3) := by decide +kernel
theorem dX0_placeOfRule_32 : decode cX0_placeOfRule 32 = .ok (.iconst (-1), 1) := by decide +kernel
theorem dX0_placeOfRule_33 : decode cX0_placeOfRule 33 = .ok (.ireturn, 1) := by decide +kernel
theorem dX0_passes_0 : decode cX0_passes 0 = .ok (.iload_n 1, 1) := by decide +kernel
theorem dX0_passes_1 : decode cX0_passes 1 = .ok (.ifCond .ne 14, 3) := by decide +kernel
theorem dX0_passes_4 : decode cX0_passes 4 = .ok (.iload_n 0, 1) := by decide +kernel
theorem dX0_passes_5 : decode cX0_passes 5 = .ok (.iload_n 2, 1) := by decide +kernel
theorem dX0_passes_6 : decode cX0_passes 6 = .ok (.if_icmp .ne 7, 3) := by decide +kernel
theorem dX0_passes_9 : decode cX0_passes 9 = .ok (.iconst 1, 1) := by decide +kernel
theorem dX0_passes_10 : decode cX0_passes 10 = .ok (.goto 4, 3) := by decide +kernel
theorem dX0_passes_13 : decode cX0_passes 13 = .ok (.iconst 0, 1) := by decide +kernel
theorem dX0_passes_14 : decode cX0_passes 14 = .ok (.ireturn, 1) := by decide +kernel
theorem dX0_passes_15 : decode cX0_passes 15 = .ok (.iload_n 1, 1) := by decide +kernel
theorem dX0_passes_16 : decode cX0_passes 16 = .ok (.iconst 1, 1) := by decide +kernel
theorem dX0_passes_17 : decode cX0_passes 17 = .ok (.if_icmp .ne 16, 3) := by decide +kernel
theorem dX0_passes_20 : decode cX0_passes 20 = .ok (.iload_n 0, 1) := by decide +kernel
theorem dX0_passes_21 : decode cX0_passes 21 = .ok (.iload_n 2, 1) := by decide +kernel
theorem dX0_passes_22 : decode cX0_passes 22 = .ok (.if_icmp .lt 7, 3) := by decide +kernel
theorem dX0_passes_25 : decode cX0_passes 25 = .ok (.iconst 1, 1) := by decide +kernel
theorem dX0_passes_26 : decode cX0_passes 26 = .ok (.goto 17, 3) := by decide +kernel
theorem dX0_passes_29 : decode cX0_passes 29 = .ok (.iconst 0, 1) := by decide +kernel
theorem dX0_passes_30 : decode cX0_passes 30 = .ok (.goto 13, 3) := by decide +kernel
theorem dX0_passes_33 : decode cX0_passes 33 = .ok (.iload_n 0, 1) := by decide +kernel
theorem dX0_passes_34 : decode cX0_passes 34 = .ok (.iload_n 2, 1) := by decide +kernel
theorem dX0_passes_35 : decode cX0_passes 35 = .ok (.if_icmp .gt 7, 3) := by decide +kernel
theorem dX0_passes_38 : decode cX0_passes 38 = .ok (.iconst 1, 1) := by decide +kernel
theorem dX0_passes_39 : decode cX0_passes 39 = .ok (.goto 4, 3) := by decide +kernel
theorem dX0_passes_42 : decode cX0_passes 42 = .ok (.iconst 0, 1) := by decide +kernel
theorem dX0_passes_43 : decode cX0_passes 43 = .ok (.ireturn, 1) := by decide +kernel
theorem dX0_firstRule_0 : decode cX0_firstRule 0 = .ok (.iconst 0, 1) := by decide +kernel
theorem dX0_firstRule_1 : decode cX0_firstRule 1 = .ok (.istore_n 2, 1) := by decide +kernel
theorem dX0_firstRule_2 : decode cX0_firstRule 2 = .ok (.iload_n 2, 1) := by decide +kernel
theorem dX0_firstRule_3 : decode cX0_firstRule 3 = .ok (.aload_n 0, 1) := by decide +kernel
theorem dX0_firstRule_4 : decode cX0_firstRule 4 = .ok (.iconst 2, 1) := by decide +kernel
theorem dX0_firstRule_5 : decode cX0_firstRule 5 = .ok (.invokevirtual 29, 3) := by decide +kernel
theorem dX0_firstRule_8 : decode cX0_firstRule 8 = .ok (.if_icmp .ge 66, 3) := by decide +kernel
theorem dX0_firstRule_11 : decode cX0_firstRule 11 = .ok (.aload_n 0, 1) := by decide +kernel
theorem dX0_firstRule_12 : decode cX0_firstRule 12 = .ok (.getfield 12, 3) := by decide +kernel
theorem dX0_firstRule_15 : decode cX0_firstRule 15 = .ok (.getfield 63, 3) := by decide +kernel
theorem dX0_firstRule_18 : decode cX0_firstRule 18 = .ok (.iload_n 2, 1) := by decide +kernel
theorem dX0_firstRule_19 : decode cX0_firstRule 19 = .ok (.iaload, 1) := by decide +kernel
theorem dX0_firstRule_20 : decode cX0_firstRule 20 = .ok (.istore_n 3, 1) := by decide +kernel
theorem dX0_firstRule_21 : decode cX0_firstRule 21 = .ok (.aload_n 0, 1) := by decide +kernel
theorem dX0_firstRule_22 : decode cX0_firstRule 22 = .ok (.iload_n 1, 1) := by decide +kernel
theorem dX0_firstRule_23 : decode cX0_firstRule 23 = .ok (.aload_n 0, 1) := by decide +kernel
theorem dX0_firstRule_24 : decode cX0_firstRule 24 = .ok (.getfield 21, 3) := by decide +kernel
theorem dX0_firstRule_27 : decode cX0_firstRule 27 = .ok (.iconst 2, 1) := by decide +kernel
theorem dX0_firstRule_28 : decode cX0_firstRule 28 = .ok (.iload_n 3, 1) := by decide +kernel
theorem dX0_firstRule_29 : decode cX0_firstRule 29 = .ok (.iconst 0, 1) := by decide +kernel
theorem dX0_firstRule_30 : decode cX0_firstRule 30 = .ok (.invokevirtual 32, 3) := by decide +kernel
theorem dX0_firstRule_33 : decode cX0_firstRule 33 = .ok (.invokevirtual 40, 3) := by decide +kernel
theorem dX0_firstRule_36 : decode cX0_firstRule 36 = .ok (.istore 4, 2) := by decide +kernel
theorem dX0_firstRule_38 : decode cX0_firstRule 38 = .ok (.iload 4, 2) := by decide +kernel
theorem dX0_firstRule_40 : decode cX0_firstRule 40 = .ok (.aload_n 0, 1) := by decide +kernel
theorem dX0_firstRule_41 : decode cX0_firstRule 41 = .ok (.getfield 21, 3) := by decide +kernel
theorem dX0_firstRule_44 : decode cX0_firstRule 44 = .ok (.iconst 2, 1) := by decide +kernel
theorem dX0_firstRule_45 : decode cX0_firstRule 45 = .ok (.iload_n 3, 1) := by decide +kernel
theorem dX0_firstRule_46 : decode cX0_firstRule 46 = .ok (.iconst 1, 1) := by decide +kernel
theorem dX0_firstRule_47 : decode cX0_firstRule 47 = .ok (.invokevirtual 32, 3) := by decide +kernel
theorem dX0_firstRule_50 : decode cX0_firstRule 50 = .ok (.aload_n 0, 1) := by decide +kernel
theorem dX0_firstRule_51 : decode cX0_firstRule 51 = .ok (.getfield 21, 3) := by decide +kernel
theorem dX0_firstRule_54 : decode cX0_firstRule 54 = .ok (.iconst 2, 1) := by decide +kernel
theorem dX0_firstRule_55 : decode cX0_firstRule 55 = .ok (.iload_n 3, 1) := by decide +kernel
theorem dX0_firstRule_56 : decode cX0_firstRule 56 = .ok (.iconst 2, 1) := by decide +kernel
theorem dX0_firstRule_57 : decode cX0_firstRule 57 = .ok (.invokevirtual 32, 3) := by decide +kernel
theorem dX0_firstRule_60 : decode cX0_firstRule 60 = .ok (.invokestatic 66, 3) := by decide +kernel
theorem dX0_firstRule_63 : decode cX0_firstRule 63 = .ok (.ifCond .eq 5, 3) := by decide +kernel
theorem dX0_firstRule_66 : decode cX0_firstRule 66 = .ok (.iload_n 3, 1) := by decide +kernel
theorem dX0_firstRule_67 : decode cX0_firstRule 67 = .ok (.ireturn, 1) := by decide +kernel
theorem dX0_firstRule_68 : decode cX0_firstRule 68 = .ok (.iinc 2 1, 3) := by decide +kernel
theorem dX0_firstRule_71 : decode cX0_firstRule 71 = .ok (.goto (-69), 3) := by decide +kernel
theorem dX0_firstRule_74 : decode cX0_firstRule 74 = .ok (.iconst (-1), 1) := by decide +kernel
theorem dX0_firstRule_75 : decode cX0_firstRule 75 = .ok (.ireturn, 1) := by decide +kernel
theorem dX0_goal_0 : decode cX0_goal 0 = .ok (.aload_n 0, 1) := by decide +kernel
theorem dX0_goal_1 : decode cX0_goal 1 = .ok (.iload_n 1, 1) := by decide +kernel
theorem dX0_goal_2 : decode cX0_goal 2 = .ok (.invokevirtual 70, 3) := by decide +kernel
theorem dX0_goal_5 : decode cX0_goal 5 = .ok (.istore_n 2, 1) := by decide +kernel
theorem dX0_goal_6 : decode cX0_goal 6 = .ok (.iload_n 2, 1) := by decide +kernel
theorem dX0_goal_7 : decode cX0_goal 7 = .ok (.iconst (-1), 1) := by decide +kernel
theorem dX0_goal_8 : decode cX0_goal 8 = .ok (.if_icmp .ne 7, 3) := by decide +kernel
theorem dX0_goal_11 : decode cX0_goal 11 = .ok (.iconst (-1), 1) := by decide +kernel
theorem dX0_goal_12 : decode cX0_goal 12 = .ok (.goto 13, 3) := by decide +kernel
theorem dX0_goal_15 : decode cX0_goal 15 = .ok (.aload_n 0, 1) := by decide +kernel
theorem dX0_goal_16 : decode cX0_goal 16 = .ok (.getfield 21, 3) := by decide +kernel
theorem dX0_goal_19 : decode cX0_goal 19 = .ok (.iconst 2, 1) := by decide +kernel
theorem dX0_goal_20 : decode cX0_goal 20 = .ok (.iload_n 2, 1) := by decide +kernel
theorem dX0_goal_21 : decode cX0_goal 21 = .ok (.iconst 3, 1) := by decide +kernel
theorem dX0_goal_22 : decode cX0_goal 22 = .ok (.invokevirtual 32, 3) := by decide +kernel
theorem dX0_goal_25 : decode cX0_goal 25 = .ok (.ireturn, 1) := by decide +kernel
theorem dX0_sortAlone_0 : decode cX0_sortAlone 0 = .ok (.aload_n 0, 1) := by decide +kernel
theorem dX0_sortAlone_1 : decode cX0_sortAlone 1 = .ok (.iload_n 1, 1) := by decide +kernel
theorem dX0_sortAlone_2 : decode cX0_sortAlone 2 = .ok (.invokevirtual 73, 3) := by decide +kernel
theorem dX0_sortAlone_5 : decode cX0_sortAlone 5 = .ok (.istore_n 2, 1) := by decide +kernel
theorem dX0_sortAlone_6 : decode cX0_sortAlone 6 = .ok (.aload_n 0, 1) := by decide +kernel
theorem dX0_sortAlone_7 : decode cX0_sortAlone 7 = .ok (.getfield 12, 3) := by decide +kernel
theorem dX0_sortAlone_10 : decode cX0_sortAlone 10 = .ok (.getfield 49, 3) := by decide +kernel
theorem dX0_sortAlone_13 : decode cX0_sortAlone 13 = .ok (.iload_n 1, 1) := by decide +kernel
theorem dX0_sortAlone_14 : decode cX0_sortAlone 14 = .ok (.iload_n 2, 1) := by decide +kernel
theorem dX0_sortAlone_15 : decode cX0_sortAlone 15 = .ok (.iconst (-1), 1) := by decide +kernel
theorem dX0_sortAlone_16 : decode cX0_sortAlone 16 = .ok (.if_icmp .ne 8, 3) := by decide +kernel
theorem dX0_sortAlone_19 : decode cX0_sortAlone 19 = .ok (.bipush 7, 2) := by decide +kernel
theorem dX0_sortAlone_21 : decode cX0_sortAlone 21 = .ok (.goto 4, 3) := by decide +kernel
theorem dX0_sortAlone_24 : decode cX0_sortAlone 24 = .ok (.iload_n 2, 1) := by decide +kernel
theorem dX0_sortAlone_25 : decode cX0_sortAlone 25 = .ok (.iastore, 1) := by decide +kernel
theorem dX0_sortAlone_26 : decode cX0_sortAlone 26 = .ok (.aload_n 0, 1) := by decide +kernel
theorem dX0_sortAlone_27 : decode cX0_sortAlone 27 = .ok (.getfield 12, 3) := by decide +kernel
theorem dX0_sortAlone_30 : decode cX0_sortAlone 30 = .ok (.aload_n 0, 1) := by decide +kernel
theorem dX0_sortAlone_31 : decode cX0_sortAlone 31 = .ok (.getfield 12, 3) := by decide +kernel
theorem dX0_sortAlone_34 : decode cX0_sortAlone 34 = .ok (.getfield 76, 3) := by decide +kernel
theorem dX0_sortAlone_37 : decode cX0_sortAlone 37 = .ok (.iconst 1, 1) := by decide +kernel
theorem dX0_sortAlone_38 : decode cX0_sortAlone 38 = .ok (.iadd, 1) := by decide +kernel
theorem dX0_sortAlone_39 : decode cX0_sortAlone 39 = .ok (.ldc 79, 2) := by decide +kernel
theorem dX0_sortAlone_41 : decode cX0_sortAlone 41 = .ok (.invokestatic 80, 3) := by decide +kernel
theorem dX0_sortAlone_44 : decode cX0_sortAlone 44 = .ok (.putfield 76, 3) := by decide +kernel
theorem dX0_sortAlone_47 : decode cX0_sortAlone 47 = .ok (.return_, 1) := by decide +kernel
theorem dX0_out_0 : decode cX0_out 0 = .ok (.iconst 0, 1) := by decide +kernel
theorem dX0_out_1 : decode cX0_out 1 = .ok (.istore_n 1, 1) := by decide +kernel
theorem dX0_out_2 : decode cX0_out 2 = .ok (.iconst 0, 1) := by decide +kernel
theorem dX0_out_3 : decode cX0_out 3 = .ok (.istore_n 2, 1) := by decide +kernel
theorem dX0_out_4 : decode cX0_out 4 = .ok (.iload_n 2, 1) := by decide +kernel
theorem dX0_out_5 : decode cX0_out 5 = .ok (.aload_n 0, 1) := by decide +kernel
theorem dX0_out_6 : decode cX0_out 6 = .ok (.iconst 1, 1) := by decide +kernel
theorem dX0_out_7 : decode cX0_out 7 = .ok (.invokevirtual 29, 3) := by decide +kernel
theorem dX0_out_10 : decode cX0_out 10 = .ok (.if_icmp .ge 24, 3) := by decide +kernel
theorem dX0_out_13 : decode cX0_out 13 = .ok (.aload_n 0, 1) := by decide +kernel
theorem dX0_out_14 : decode cX0_out 14 = .ok (.iload_n 2, 1) := by decide +kernel
theorem dX0_out_15 : decode cX0_out 15 = .ok (.invokevirtual 73, 3) := by decide +kernel
theorem dX0_out_18 : decode cX0_out 18 = .ok (.iconst (-1), 1) := by decide +kernel
theorem dX0_out_19 : decode cX0_out 19 = .ok (.if_icmp .ne 9, 3) := by decide +kernel
theorem dX0_out_22 : decode cX0_out 22 = .ok (.iload_n 1, 1) := by decide +kernel
theorem dX0_out_23 : decode cX0_out 23 = .ok (.iconst 1, 1) := by decide +kernel
theorem dX0_out_24 : decode cX0_out 24 = .ok (.iload_n 2, 1) := by decide +kernel
theorem dX0_out_25 : decode cX0_out 25 = .ok (.ishl, 1) := by decide +kernel
theorem dX0_out_26 : decode cX0_out 26 = .ok (.ior, 1) := by decide +kernel
theorem dX0_out_27 : decode cX0_out 27 = .ok (.istore_n 1, 1) := by decide +kernel
theorem dX0_out_28 : decode cX0_out 28 = .ok (.iinc 2 1, 3) := by decide +kernel
theorem dX0_out_31 : decode cX0_out 31 = .ok (.goto (-27), 3) := by decide +kernel
theorem dX0_out_34 : decode cX0_out 34 = .ok (.iload_n 1, 1) := by decide +kernel
theorem dX0_out_35 : decode cX0_out 35 = .ok (.ireturn, 1) := by decide +kernel
theorem dX0_inWrongHeap_0 : decode cX0_inWrongHeap 0 = .ok (.iconst 0, 1) := by decide +kernel
theorem dX0_inWrongHeap_1 : decode cX0_inWrongHeap 1 = .ok (.istore_n 1, 1) := by decide +kernel
theorem dX0_inWrongHeap_2 : decode cX0_inWrongHeap 2 = .ok (.iconst 0, 1) := by decide +kernel
theorem dX0_inWrongHeap_3 : decode cX0_inWrongHeap 3 = .ok (.istore_n 2, 1) := by decide +kernel
theorem dX0_inWrongHeap_4 : decode cX0_inWrongHeap 4 = .ok (.iload_n 2, 1) := by decide +kernel
theorem dX0_inWrongHeap_5 : decode cX0_inWrongHeap 5 = .ok (.aload_n 0, 1) := by decide +kernel
theorem dX0_inWrongHeap_6 : decode cX0_inWrongHeap 6 = .ok (.iconst 1, 1) := by decide +kernel
theorem dX0_inWrongHeap_7 : decode cX0_inWrongHeap 7 = .ok (.invokevirtual 29, 3) := by decide +kernel
theorem dX0_inWrongHeap_10 : decode cX0_inWrongHeap 10 = .ok (.if_icmp .ge 37, 3) := by decide +kernel
theorem dX0_inWrongHeap_13 : decode cX0_inWrongHeap 13 = .ok (.aload_n 0, 1) := by decide +kernel
theorem dX0_inWrongHeap_14 : decode cX0_inWrongHeap 14 = .ok (.iload_n 2, 1) := by decide +kernel
theorem dX0_inWrongHeap_15 : decode cX0_inWrongHeap 15 = .ok (.invokevirtual 83, 3) := by decide +kernel
theorem dX0_inWrongHeap_18 : decode cX0_inWrongHeap 18 = .ok (.iconst (-1), 1) := by decide +kernel
theorem dX0_inWrongHeap_19 : decode cX0_inWrongHeap 19 = .ok (.if_icmp .eq 22, 3) := by decide +kernel
theorem dX0_inWrongHeap_22 : decode cX0_inWrongHeap 22 = .ok (.aload_n 0, 1) := by decide +kernel
theorem dX0_inWrongHeap_23 : decode cX0_inWrongHeap 23 = .ok (.iload_n 2, 1) := by decide +kernel
theorem dX0_inWrongHeap_24 : decode cX0_inWrongHeap 24 = .ok (.invokevirtual 83, 3) := by decide +kernel
theorem dX0_inWrongHeap_27 : decode cX0_inWrongHeap 27 = .ok (.aload_n 0, 1) := by decide +kernel
theorem dX0_inWrongHeap_28 : decode cX0_inWrongHeap 28 = .ok (.iload_n 2, 1) := by decide +kernel
theorem dX0_inWrongHeap_29 : decode cX0_inWrongHeap 29 = .ok (.invokevirtual 73, 3) := by decide +kernel
theorem dX0_inWrongHeap_32 : decode cX0_inWrongHeap 32 = .ok (.if_icmp .eq 9, 3) := by decide +kernel
theorem dX0_inWrongHeap_35 : decode cX0_inWrongHeap 35 = .ok (.iload_n 1, 1) := by decide +kernel
theorem dX0_inWrongHeap_36 : decode cX0_inWrongHeap 36 = .ok (.iconst 1, 1) := by decide +kernel
theorem dX0_inWrongHeap_37 : decode cX0_inWrongHeap 37 = .ok (.iload_n 2, 1) := by decide +kernel
theorem dX0_inWrongHeap_38 : decode cX0_inWrongHeap 38 = .ok (.ishl, 1) := by decide +kernel
theorem dX0_inWrongHeap_39 : decode cX0_inWrongHeap 39 = .ok (.ior, 1) := by decide +kernel
theorem dX0_inWrongHeap_40 : decode cX0_inWrongHeap 40 = .ok (.istore_n 1, 1) := by decide +kernel
theorem dX0_inWrongHeap_41 : decode cX0_inWrongHeap 41 = .ok (.iinc 2 1, 3) := by decide +kernel
theorem dX0_inWrongHeap_44 : decode cX0_inWrongHeap 44 = .ok (.goto (-40), 3) := by decide +kernel
theorem dX0_inWrongHeap_47 : decode cX0_inWrongHeap 47 = .ok (.iload_n 1, 1) := by decide +kernel
theorem dX0_inWrongHeap_48 : decode cX0_inWrongHeap 48 = .ok (.ireturn, 1) := by decide +kernel
theorem dX0_idle_0 : decode cX0_idle 0 = .ok (.iconst 1, 1) := by decide +kernel
theorem dX0_idle_1 : decode cX0_idle 1 = .ok (.aload_n 0, 1) := by decide +kernel
theorem dX0_idle_2 : decode cX0_idle 2 = .ok (.iconst 2, 1) := by decide +kernel
theorem dX0_idle_3 : decode cX0_idle 3 = .ok (.invokevirtual 29, 3) := by decide +kernel
theorem dX0_idle_6 : decode cX0_idle 6 = .ok (.ishl, 1) := by decide +kernel
theorem dX0_idle_7 : decode cX0_idle 7 = .ok (.iconst 1, 1) := by decide +kernel
theorem dX0_idle_8 : decode cX0_idle 8 = .ok (.isub, 1) := by decide +kernel
theorem dX0_idle_9 : decode cX0_idle 9 = .ok (.istore_n 1, 1) := by decide +kernel
theorem dX0_idle_10 : decode cX0_idle 10 = .ok (.iconst 0, 1) := by decide +kernel
theorem dX0_idle_11 : decode cX0_idle 11 = .ok (.istore_n 2, 1) := by decide +kernel
theorem dX0_idle_12 : decode cX0_idle 12 = .ok (.iload_n 2, 1) := by decide +kernel
theorem dX0_idle_13 : decode cX0_idle 13 = .ok (.aload_n 0, 1) := by decide +kernel
theorem dX0_idle_14 : decode cX0_idle 14 = .ok (.iconst 1, 1) := by decide +kernel
theorem dX0_idle_15 : decode cX0_idle 15 = .ok (.invokevirtual 29, 3) := by decide +kernel
theorem dX0_idle_18 : decode cX0_idle 18 = .ok (.if_icmp .ge 28, 3) := by decide +kernel
theorem dX0_idle_21 : decode cX0_idle 21 = .ok (.aload_n 0, 1) := by decide +kernel
theorem dX0_idle_22 : decode cX0_idle 22 = .ok (.iload_n 2, 1) := by decide +kernel
theorem dX0_idle_23 : decode cX0_idle 23 = .ok (.invokevirtual 70, 3) := by decide +kernel
theorem dX0_idle_26 : decode cX0_idle 26 = .ok (.istore_n 3, 1) := by decide +kernel
theorem dX0_idle_27 : decode cX0_idle 27 = .ok (.iload_n 3, 1) := by decide +kernel
theorem dX0_idle_28 : decode cX0_idle 28 = .ok (.iconst (-1), 1) := by decide +kernel
theorem dX0_idle_29 : decode cX0_idle 29 = .ok (.if_icmp .eq 11, 3) := by decide +kernel
theorem dX0_idle_32 : decode cX0_idle 32 = .ok (.iload_n 1, 1) := by decide +kernel
theorem dX0_idle_33 : decode cX0_idle 33 = .ok (.iconst 1, 1) := by decide +kernel
theorem dX0_idle_34 : decode cX0_idle 34 = .ok (.iload_n 3, 1) := by decide +kernel
theorem dX0_idle_35 : decode cX0_idle 35 = .ok (.ishl, 1) := by decide +kernel
theorem dX0_idle_36 : decode cX0_idle 36 = .ok (.iconst (-1), 1) := by decide +kernel
theorem dX0_idle_37 : decode cX0_idle 37 = .ok (.ixor, 1) := by decide +kernel
theorem dX0_idle_38 : decode cX0_idle 38 = .ok (.iand, 1) := by decide +kernel
theorem dX0_idle_39 : decode cX0_idle 39 = .ok (.istore_n 1, 1) := by decide +kernel
theorem dX0_idle_40 : decode cX0_idle 40 = .ok (.iinc 2 1, 3) := by decide +kernel
theorem dX0_idle_43 : decode cX0_idle 43 = .ok (.goto (-31), 3) := by decide +kernel
theorem dX0_idle_46 : decode cX0_idle 46 = .ok (.iload_n 1, 1) := by decide +kernel
theorem dX0_idle_47 : decode cX0_idle 47 = .ok (.ireturn, 1) := by decide +kernel
theorem dX0_heaviest_0 : decode cX0_heaviest 0 = .ok (.iconst (-1), 1) := by decide +kernel
theorem dX0_heaviest_1 : decode cX0_heaviest 1 = .ok (.istore_n 1, 1) := by decide +kernel
theorem dX0_heaviest_2 : decode cX0_heaviest 2 = .ok (.iconst (-1), 1) := by decide +kernel
theorem dX0_heaviest_3 : decode cX0_heaviest 3 = .ok (.istore_n 2, 1) := by decide +kernel
theorem dX0_heaviest_4 : decode cX0_heaviest 4 = .ok (.iconst 0, 1) := by decide +kernel
theorem dX0_heaviest_5 : decode cX0_heaviest 5 = .ok (.istore_n 3, 1) := by decide +kernel
theorem dX0_heaviest_6 : decode cX0_heaviest 6 = .ok (.iload_n 3, 1) := by decide +kernel
theorem dX0_heaviest_7 : decode cX0_heaviest 7 = .ok (.bipush 6, 2) := by decide +kernel
theorem dX0_heaviest_9 : decode cX0_heaviest 9 = .ok (.if_icmp .ge 42, 3) := by decide +kernel
theorem dX0_heaviest_12 : decode cX0_heaviest 12 = .ok (.aload_n 0, 1) := by decide +kernel
theorem dX0_heaviest_13 : decode cX0_heaviest 13 = .ok (.iload_n 3, 1) := by decide +kernel
theorem dX0_heaviest_14 : decode cX0_heaviest 14 = .ok (.invokevirtual 55, 3) := by decide +kernel
theorem dX0_heaviest_17 : decode cX0_heaviest 17 = .ok (.istore 4, 2) := by decide +kernel
theorem dX0_heaviest_19 : decode cX0_heaviest 19 = .ok (.aload_n 0, 1) := by decide +kernel
theorem dX0_heaviest_20 : decode cX0_heaviest 20 = .ok (.iload 4, 2) := by decide +kernel
theorem dX0_heaviest_22 : decode cX0_heaviest 22 = .ok (.bipush 12, 2) := by decide +kernel
theorem dX0_heaviest_24 : decode cX0_heaviest 24 = .ok (.invokevirtual 86, 3) := by decide +kernel
theorem dX0_heaviest_27 : decode cX0_heaviest 27 = .ok (.istore 5, 2) := by decide +kernel
theorem dX0_heaviest_29 : decode cX0_heaviest 29 = .ok (.iload 4, 2) := by decide +kernel
theorem dX0_heaviest_31 : decode cX0_heaviest 31 = .ok (.ifCond .eq 14, 3) := by decide +kernel
theorem dX0_heaviest_34 : decode cX0_heaviest 34 = .ok (.iload 5, 2) := by decide +kernel
theorem dX0_heaviest_36 : decode cX0_heaviest 36 = .ok (.iload_n 2, 1) := by decide +kernel
theorem dX0_heaviest_37 : decode cX0_heaviest 37 = .ok (.if_icmp .le 8, 3) := by decide +kernel
theorem dX0_heaviest_40 : decode cX0_heaviest 40 = .ok (.iload 5, 2) := by decide +kernel
theorem dX0_heaviest_42 : decode cX0_heaviest 42 = .ok (.istore_n 2, 1) := by decide +kernel
theorem dX0_heaviest_43 : decode cX0_heaviest 43 = .ok (.iload_n 3, 1) := by decide +kernel
theorem dX0_heaviest_44 : decode cX0_heaviest 44 = .ok (.istore_n 1, 1) := by decide +kernel
theorem dX0_heaviest_45 : decode cX0_heaviest 45 = .ok (.iinc 3 1, 3) := by decide +kernel
theorem dX0_heaviest_48 : decode cX0_heaviest 48 = .ok (.goto (-42), 3) := by decide +kernel
theorem dX0_heaviest_51 : decode cX0_heaviest 51 = .ok (.iload_n 1, 1) := by decide +kernel
theorem dX0_heaviest_52 : decode cX0_heaviest 52 = .ok (.ireturn, 1) := by decide +kernel
theorem dX0_mostHeld_0 : decode cX0_mostHeld 0 = .ok (.iload_n 1, 1) := by decide +kernel
theorem dX0_mostHeld_1 : decode cX0_mostHeld 1 = .ok (.istore_n 3, 1) := by decide +kernel
theorem dX0_mostHeld_2 : decode cX0_mostHeld 2 = .ok (.iconst 0, 1) := by decide +kernel
theorem dX0_mostHeld_3 : decode cX0_mostHeld 3 = .ok (.istore 4, 2) := by decide +kernel
theorem dX0_mostHeld_5 : decode cX0_mostHeld 5 = .ok (.iconst 0, 1) := by decide +kernel
theorem dX0_mostHeld_6 : decode cX0_mostHeld 6 = .ok (.istore 5, 2) := by decide +kernel
theorem dX0_mostHeld_8 : decode cX0_mostHeld 8 = .ok (.iload 5, 2) := by decide +kernel
theorem dX0_mostHeld_10 : decode cX0_mostHeld 10 = .ok (.iload_n 2, 1) := by decide +kernel
theorem dX0_mostHeld_11 : decode cX0_mostHeld 11 = .ok (.if_icmp .ge 40, 3) := by decide +kernel
theorem dX0_mostHeld_14 : decode cX0_mostHeld 14 = .ok (.iload_n 3, 1) := by decide +kernel
theorem dX0_mostHeld_15 : decode cX0_mostHeld 15 = .ok (.ifCond .eq 36, 3) := by decide +kernel
theorem dX0_mostHeld_18 : decode cX0_mostHeld 18 = .ok (.aload_n 0, 1) := by decide +kernel
theorem dX0_mostHeld_19 : decode cX0_mostHeld 19 = .ok (.iload_n 3, 1) := by decide +kernel
theorem dX0_mostHeld_20 : decode cX0_mostHeld 20 = .ok (.invokevirtual 89, 3) := by decide +kernel
theorem dX0_mostHeld_23 : decode cX0_mostHeld 23 = .ok (.istore 6, 2) := by decide +kernel
theorem dX0_mostHeld_25 : decode cX0_mostHeld 25 = .ok (.iload_n 3, 1) := by decide +kernel
theorem dX0_mostHeld_26 : decode cX0_mostHeld 26 = .ok (.iconst 1, 1) := by decide +kernel
theorem dX0_mostHeld_27 : decode cX0_mostHeld 27 = .ok (.iload 6, 2) := by decide +kernel
theorem dX0_mostHeld_29 : decode cX0_mostHeld 29 = .ok (.ishl, 1) := by decide +kernel
theorem dX0_mostHeld_30 : decode cX0_mostHeld 30 = .ok (.iconst (-1), 1) := by decide +kernel
theorem dX0_mostHeld_31 : decode cX0_mostHeld 31 = .ok (.ixor, 1) := by decide +kernel
theorem dX0_mostHeld_32 : decode cX0_mostHeld 32 = .ok (.iand, 1) := by decide +kernel
theorem dX0_mostHeld_33 : decode cX0_mostHeld 33 = .ok (.istore_n 3, 1) := by decide +kernel
theorem dX0_mostHeld_34 : decode cX0_mostHeld 34 = .ok (.iload 4, 2) := by decide +kernel
theorem dX0_mostHeld_36 : decode cX0_mostHeld 36 = .ok (.aload_n 0, 1) := by decide +kernel
theorem dX0_mostHeld_37 : decode cX0_mostHeld 37 = .ok (.iload 6, 2) := by decide +kernel
theorem dX0_mostHeld_39 : decode cX0_mostHeld 39 = .ok (.invokevirtual 92, 3) := by decide +kernel
theorem dX0_mostHeld_42 : decode cX0_mostHeld 42 = .ok (.iadd, 1) := by decide +kernel
theorem dX0_mostHeld_43 : decode cX0_mostHeld 43 = .ok (.istore 4, 2) := by decide +kernel
theorem dX0_mostHeld_45 : decode cX0_mostHeld 45 = .ok (.iinc 5 1, 3) := by decide +kernel
theorem dX0_mostHeld_48 : decode cX0_mostHeld 48 = .ok (.goto (-40), 3) := by decide +kernel
theorem dX0_mostHeld_51 : decode cX0_mostHeld 51 = .ok (.iload 4, 2) := by decide +kernel
theorem dX0_mostHeld_53 : decode cX0_mostHeld 53 = .ok (.ireturn, 1) := by decide +kernel
theorem dX0_strongest_0 : decode cX0_strongest 0 = .ok (.iload_n 1, 1) := by decide +kernel
theorem dX0_strongest_1 : decode cX0_strongest 1 = .ok (.invokestatic 58, 3) := by decide +kernel
theorem dX0_strongest_4 : decode cX0_strongest 4 = .ok (.istore_n 2, 1) := by decide +kernel
theorem dX0_strongest_5 : decode cX0_strongest 5 = .ok (.iload_n 2, 1) := by decide +kernel
theorem dX0_strongest_6 : decode cX0_strongest 6 = .ok (.iconst 1, 1) := by decide +kernel
theorem dX0_strongest_7 : decode cX0_strongest 7 = .ok (.iadd, 1) := by decide +kernel
theorem dX0_strongest_8 : decode cX0_strongest 8 = .ok (.istore_n 3, 1) := by decide +kernel
theorem dX0_strongest_9 : decode cX0_strongest 9 = .ok (.iload_n 3, 1) := by decide +kernel
theorem dX0_strongest_10 : decode cX0_strongest 10 = .ok (.aload_n 0, 1) := by decide +kernel
theorem dX0_strongest_11 : decode cX0_strongest 11 = .ok (.iconst 1, 1) := by decide +kernel
theorem dX0_strongest_12 : decode cX0_strongest 12 = .ok (.invokevirtual 29, 3) := by decide +kernel
theorem dX0_strongest_15 : decode cX0_strongest 15 = .ok (.if_icmp .ge 32, 3) := by decide +kernel
theorem dX0_strongest_18 : decode cX0_strongest 18 = .ok (.iload_n 1, 1) := by decide +kernel
theorem dX0_strongest_19 : decode cX0_strongest 19 = .ok (.iload_n 3, 1) := by decide +kernel
theorem dX0_strongest_20 : decode cX0_strongest 20 = .ok (.invokestatic 95, 3) := by decide +kernel
theorem dX0_strongest_23 : decode cX0_strongest 23 = .ok (.ifCond .eq 18, 3) := by decide +kernel
theorem dX0_strongest_26 : decode cX0_strongest 26 = .ok (.aload_n 0, 1) := by decide +kernel
theorem dX0_strongest_27 : decode cX0_strongest 27 = .ok (.iload_n 3, 1) := by decide +kernel
theorem dX0_strongest_28 : decode cX0_strongest 28 = .ok (.invokevirtual 92, 3) := by decide +kernel
theorem dX0_strongest_31 : decode cX0_strongest 31 = .ok (.aload_n 0, 1) := by decide +kernel
theorem dX0_strongest_32 : decode cX0_strongest 32 = .ok (.iload_n 2, 1) := by decide +kernel
theorem dX0_strongest_33 : decode cX0_strongest 33 = .ok (.invokevirtual 92, 3) := by decide +kernel
theorem dX0_strongest_36 : decode cX0_strongest 36 = .ok (.if_icmp .le 5, 3) := by decide +kernel
theorem dX0_strongest_39 : decode cX0_strongest 39 = .ok (.iload_n 3, 1) := by decide +kernel
theorem dX0_strongest_40 : decode cX0_strongest 40 = .ok (.istore_n 2, 1) := by decide +kernel
theorem dX0_strongest_41 : decode cX0_strongest 41 = .ok (.iinc 3 1, 3) := by decide +kernel
theorem dX0_strongest_44 : decode cX0_strongest 44 = .ok (.goto (-35), 3) := by decide +kernel
theorem dX0_strongest_47 : decode cX0_strongest 47 = .ok (.iload_n 2, 1) := by decide +kernel
theorem dX0_strongest_48 : decode cX0_strongest 48 = .ok (.ireturn, 1) := by decide +kernel
theorem dX0_haveLikeMarks_0 : decode cX0_haveLikeMarks 0 = .ok (.iconst 0, 1) := by decide +kernel
theorem dX0_haveLikeMarks_1 : decode cX0_haveLikeMarks 1 = .ok (.istore_n 3, 1) := by decide +kernel
theorem dX0_haveLikeMarks_2 : decode cX0_haveLikeMarks 2 = .ok (.iload_n 3, 1) := by decide +kernel
theorem dX0_haveLikeMarks_3 : decode cX0_haveLikeMarks 3 = .ok (.iconst 4, 1) := by decide +kernel
theorem dX0_haveLikeMarks_4 : decode cX0_haveLikeMarks 4 = .ok (.if_icmp .ge 26, 3) := by decide +kernel
theorem dX0_haveLikeMarks_7 : decode cX0_haveLikeMarks 7 = .ok (.aload_n 0, 1) := by decide +kernel
theorem dX0_haveLikeMarks_8 : decode cX0_haveLikeMarks 8 = .ok (.iload_n 1, 1) := by decide +kernel
theorem dX0_haveLikeMarks_9 : decode cX0_haveLikeMarks 9 = .ok (.iload_n 3, 1) := by decide +kernel
theorem dX0_haveLikeMarks_10 : decode cX0_haveLikeMarks 10 = .ok (.invokevirtual 40, 3) := by decide +kernel
theorem dX0_haveLikeMarks_13 : decode cX0_haveLikeMarks 13 = .ok (.aload_n 0, 1) := by decide +kernel
theorem dX0_haveLikeMarks_14 : decode cX0_haveLikeMarks 14 = .ok (.iload_n 2, 1) := by decide +kernel
theorem dX0_haveLikeMarks_15 : decode cX0_haveLikeMarks 15 = .ok (.iload_n 3, 1) := by decide +kernel
theorem dX0_haveLikeMarks_16 : decode cX0_haveLikeMarks 16 = .ok (.invokevirtual 40, 3) := by decide +kernel
theorem dX0_haveLikeMarks_19 : decode cX0_haveLikeMarks 19 = .ok (.if_icmp .eq 5, 3) := by decide +kernel
theorem dX0_haveLikeMarks_22 : decode cX0_haveLikeMarks 22 = .ok (.iconst 0, 1) := by decide +kernel
theorem dX0_haveLikeMarks_23 : decode cX0_haveLikeMarks 23 = .ok (.ireturn, 1) := by decide +kernel
theorem dX0_haveLikeMarks_24 : decode cX0_haveLikeMarks 24 = .ok (.iinc 3 1, 3) := by decide +kernel
theorem dX0_haveLikeMarks_27 : decode cX0_haveLikeMarks 27 = .ok (.goto (-25), 3) := by decide +kernel
theorem dX0_haveLikeMarks_30 : decode cX0_haveLikeMarks 30 = .ok (.iconst 1, 1) := by decide +kernel
theorem dX0_haveLikeMarks_31 : decode cX0_haveLikeMarks 31 = .ok (.ireturn, 1) := by decide +kernel
theorem dX0_unlikeMarks_0 : decode cX0_unlikeMarks 0 = .ok (.iconst 0, 1) := by decide +kernel
theorem dX0_unlikeMarks_1 : decode cX0_unlikeMarks 1 = .ok (.istore_n 3, 1) := by decide +kernel
theorem dX0_unlikeMarks_2 : decode cX0_unlikeMarks 2 = .ok (.iconst 0, 1) := by decide +kernel
theorem dX0_unlikeMarks_3 : decode cX0_unlikeMarks 3 = .ok (.istore 4, 2) := by decide +kernel
theorem dX0_unlikeMarks_5 : decode cX0_unlikeMarks 5 = .ok (.iload 4, 2) := by decide +kernel
theorem dX0_unlikeMarks_7 : decode cX0_unlikeMarks 7 = .ok (.iconst 4, 1) := by decide +kernel
theorem dX0_unlikeMarks_8 : decode cX0_unlikeMarks 8 = .ok (.if_icmp .ge 33, 3) := by decide +kernel
theorem dX0_unlikeMarks_11 : decode cX0_unlikeMarks 11 = .ok (.aload_n 0, 1) := by decide +kernel
theorem dX0_unlikeMarks_12 : decode cX0_unlikeMarks 12 = .ok (.iload_n 1, 1) := by decide +kernel
theorem dX0_unlikeMarks_13 : decode cX0_unlikeMarks 13 = .ok (.iload 4, 2) := by decide +kernel
theorem dX0_unlikeMarks_15 : decode cX0_unlikeMarks 15 = .ok (.invokevirtual 40, 3) := by decide +kernel
theorem dX0_unlikeMarks_18 : decode cX0_unlikeMarks 18 = .ok (.aload_n 0, 1) := by decide +kernel
theorem dX0_unlikeMarks_19 : decode cX0_unlikeMarks 19 = .ok (.getfield 21, 3) := by decide +kernel
theorem dX0_unlikeMarks_22 : decode cX0_unlikeMarks 22 = .ok (.iconst 3, 1) := by decide +kernel
theorem dX0_unlikeMarks_23 : decode cX0_unlikeMarks 23 = .ok (.iload_n 2, 1) := by decide +kernel
theorem dX0_unlikeMarks_24 : decode cX0_unlikeMarks 24 = .ok (.iload 4, 2) := by decide +kernel
theorem dX0_unlikeMarks_26 : decode cX0_unlikeMarks 26 = .ok (.invokevirtual 32, 3) := by decide +kernel
theorem dX0_unlikeMarks_29 : decode cX0_unlikeMarks 29 = .ok (.if_icmp .eq 6, 3) := by decide +kernel
theorem dX0_unlikeMarks_32 : decode cX0_unlikeMarks 32 = .ok (.iinc 3 1, 3) := by decide +kernel
theorem dX0_unlikeMarks_35 : decode cX0_unlikeMarks 35 = .ok (.iinc 4 1, 3) := by decide +kernel
theorem dX0_unlikeMarks_38 : decode cX0_unlikeMarks 38 = .ok (.goto (-33), 3) := by decide +kernel
theorem dX0_unlikeMarks_41 : decode cX0_unlikeMarks 41 = .ok (.iload_n 3, 1) := by decide +kernel
theorem dX0_unlikeMarks_42 : decode cX0_unlikeMarks 42 = .ok (.ireturn, 1) := by decide +kernel
theorem dX0_fewestSlips_0 : decode cX0_fewestSlips 0 = .ok (.iconst (-1), 1) := by decide +kernel
theorem dX0_fewestSlips_1 : decode cX0_fewestSlips 1 = .ok (.istore_n 2, 1) := by decide +kernel
theorem dX0_fewestSlips_2 : decode cX0_fewestSlips 2 = .ok (.iconst 0, 1) := by decide +kernel
theorem dX0_fewestSlips_3 : decode cX0_fewestSlips 3 = .ok (.istore_n 3, 1) := by decide +kernel
theorem dX0_fewestSlips_4 : decode cX0_fewestSlips 4 = .ok (.iload_n 3, 1) := by decide +kernel
theorem dX0_fewestSlips_5 : decode cX0_fewestSlips 5 = .ok (.aload_n 0, 1) := by decide +kernel
theorem dX0_fewestSlips_6 : decode cX0_fewestSlips 6 = .ok (.iconst 3, 1) := by decide +kernel
theorem dX0_fewestSlips_7 : decode cX0_fewestSlips 7 = .ok (.invokevirtual 29, 3) := by decide +kernel
theorem dX0_fewestSlips_10 : decode cX0_fewestSlips 10 = .ok (.if_icmp .ge 31, 3) := by decide +kernel
theorem dX0_fewestSlips_13 : decode cX0_fewestSlips 13 = .ok (.aload_n 0, 1) := by decide +kernel
theorem dX0_fewestSlips_14 : decode cX0_fewestSlips 14 = .ok (.iload_n 1, 1) := by decide +kernel
theorem dX0_fewestSlips_15 : decode cX0_fewestSlips 15 = .ok (.iload_n 3, 1) := by decide +kernel
theorem dX0_fewestSlips_16 : decode cX0_fewestSlips 16 = .ok (.invokevirtual 99, 3) := by decide +kernel
theorem dX0_fewestSlips_19 : decode cX0_fewestSlips 19 = .ok (.istore 4, 2) := by decide +kernel
theorem dX0_fewestSlips_21 : decode cX0_fewestSlips 21 = .ok (.iload_n 2, 1) := by decide +kernel
theorem dX0_fewestSlips_22 : decode cX0_fewestSlips 22 = .ok (.iconst (-1), 1) := by decide +kernel
theorem dX0_fewestSlips_23 : decode cX0_fewestSlips 23 = .ok (.if_icmp .eq 9, 3) := by decide +kernel
theorem dX0_fewestSlips_26 : decode cX0_fewestSlips 26 = .ok (.iload 4, 2) := by decide +kernel
theorem dX0_fewestSlips_28 : decode cX0_fewestSlips 28 = .ok (.iload_n 2, 1) := by decide +kernel
theorem dX0_fewestSlips_29 : decode cX0_fewestSlips 29 = .ok (.if_icmp .ge 6, 3) := by decide +kernel
theorem dX0_fewestSlips_32 : decode cX0_fewestSlips 32 = .ok (.iload 4, 2) := by decide +kernel
theorem dX0_fewestSlips_34 : decode cX0_fewestSlips 34 = .ok (.istore_n 2, 1) := by decide +kernel
theorem dX0_fewestSlips_35 : decode cX0_fewestSlips 35 = .ok (.iinc 3 1, 3) := by decide +kernel
theorem dX0_fewestSlips_38 : decode cX0_fewestSlips 38 = .ok (.goto (-34), 3) := by decide +kernel
theorem dX0_fewestSlips_41 : decode cX0_fewestSlips 41 = .ok (.iload_n 2, 1) := by decide +kernel
theorem dX0_fewestSlips_42 : decode cX0_fewestSlips 42 = .ok (.ireturn, 1) := by decide +kernel
theorem dX0_causesWithSlips_0 : decode cX0_causesWithSlips 0 = .ok (.iconst 0, 1) := by decide +kernel
theorem dX0_causesWithSlips_1 : decode cX0_causesWithSlips 1 = .ok (.istore_n 3, 1) := by decide +kernel
theorem dX0_causesWithSlips_2 : decode cX0_causesWithSlips 2 = .ok (.iconst 0, 1) := by decide +kernel
theorem dX0_causesWithSlips_3 : decode cX0_causesWithSlips 3 = .ok (.istore 4, 2) := by decide +kernel
theorem dX0_causesWithSlips_5 : decode cX0_causesWithSlips 5 = .ok (.iload 4, 2) := by decide +kernel
theorem dX0_causesWithSlips_7 : decode cX0_causesWithSlips 7 = .ok (.aload_n 0, 1) := by decide +kernel
theorem dX0_causesWithSlips_8 : decode cX0_causesWithSlips 8 = .ok (.iconst 3, 1) := by decide +kernel
theorem dX0_causesWithSlips_9 : decode cX0_causesWithSlips 9 = .ok (.invokevirtual 29, 3) := by decide +kernel
theorem dX0_causesWithSlips_12 : decode cX0_causesWithSlips 12 = .ok (.if_icmp .ge 27, 3) := by decide +kernel
theorem dX0_causesWithSlips_15 : decode cX0_causesWithSlips 15 = .ok (.aload_n 0, 1) := by decide +kernel
theorem dX0_causesWithSlips_16 : decode cX0_causesWithSlips 16 = .ok (.iload_n 1, 1) := by decide +kernel
theorem dX0_causesWithSlips_17 : decode cX0_causesWithSlips 17 = .ok (.iload 4, 2) := by decide +kernel
theorem dX0_causesWithSlips_19 : decode cX0_causesWithSlips 19 = .ok (.invokevirtual 99, 3) := by decide +kernel
theorem dX0_causesWithSlips_22 : decode cX0_causesWithSlips 22 = .ok (.iload_n 2, 1) := by decide +kernel
theorem dX0_causesWithSlips_23 : decode cX0_causesWithSlips 23 = .ok (.if_icmp .ne 10, 3) := by decide +kernel
theorem dX0_causesWithSlips_26 : decode cX0_causesWithSlips 26 = .ok (.iload_n 3, 1) := by decide +kernel
theorem dX0_causesWithSlips_27 : decode cX0_causesWithSlips 27 = .ok (.iconst 1, 1) := by decide +kernel
theorem dX0_causesWithSlips_28 : decode cX0_causesWithSlips 28 = .ok (.iload 4, 2) := by decide +kernel
theorem dX0_causesWithSlips_30 : decode cX0_causesWithSlips 30 = .ok (.ishl, 1) := by decide +kernel
theorem dX0_causesWithSlips_31 : decode cX0_causesWithSlips 31 = .ok (.ior, 1) := by decide +kernel
theorem dX0_causesWithSlips_32 : decode cX0_causesWithSlips 32 = .ok (.istore_n 3, 1) := by decide +kernel
theorem dX0_causesWithSlips_33 : decode cX0_causesWithSlips 33 = .ok (.iinc 4 1, 3) := by decide +kernel
theorem dX0_causesWithSlips_36 : decode cX0_causesWithSlips 36 = .ok (.goto (-31), 3) := by decide +kernel
theorem dX0_causesWithSlips_39 : decode cX0_causesWithSlips 39 = .ok (.iload_n 3, 1) := by decide +kernel
theorem dX0_causesWithSlips_40 : decode cX0_causesWithSlips 40 = .ok (.ireturn, 1) := by decide +kernel
theorem dX0_leastChange_0 : decode cX0_leastChange 0 = .ok (.aload_n 0, 1) := by decide +kernel
theorem dX0_leastChange_1 : decode cX0_leastChange 1 = .ok (.iload_n 1, 1) := by decide +kernel
theorem dX0_leastChange_2 : decode cX0_leastChange 2 = .ok (.invokevirtual 73, 3) := by decide +kernel
theorem dX0_leastChange_5 : decode cX0_leastChange 5 = .ok (.iconst (-1), 1) := by decide +kernel
theorem dX0_leastChange_6 : decode cX0_leastChange 6 = .ok (.if_icmp .eq 5, 3) := by decide +kernel
theorem dX0_leastChange_9 : decode cX0_leastChange 9 = .ok (.iconst (-1), 1) := by decide +kernel
theorem dX0_leastChange_10 : decode cX0_leastChange 10 = .ok (.ireturn, 1) := by decide +kernel
theorem dX0_leastChange_11 : decode cX0_leastChange 11 = .ok (.iconst (-1), 1) := by decide +kernel
theorem dX0_leastChange_12 : decode cX0_leastChange 12 = .ok (.istore_n 2, 1) := by decide +kernel
theorem dX0_leastChange_13 : decode cX0_leastChange 13 = .ok (.iconst 0, 1) := by decide +kernel
theorem dX0_leastChange_14 : decode cX0_leastChange 14 = .ok (.istore_n 3, 1) := by decide +kernel
theorem dX0_leastChange_15 : decode cX0_leastChange 15 = .ok (.iconst 0, 1) := by decide +kernel
theorem dX0_leastChange_16 : decode cX0_leastChange 16 = .ok (.istore 4, 2) := by decide +kernel
theorem dX0_leastChange_18 : decode cX0_leastChange 18 = .ok (.iload 4, 2) := by decide +kernel
theorem dX0_leastChange_20 : decode cX0_leastChange 20 = .ok (.aload_n 0, 1) := by decide +kernel
theorem dX0_leastChange_21 : decode cX0_leastChange 21 = .ok (.iconst 2, 1) := by decide +kernel
theorem dX0_leastChange_22 : decode cX0_leastChange 22 = .ok (.invokevirtual 29, 3) := by decide +kernel
theorem dX0_leastChange_25 : decode cX0_leastChange 25 = .ok (.if_icmp .ge 81, 3) := by decide +kernel
theorem dX0_leastChange_28 : decode cX0_leastChange 28 = .ok (.aload_n 0, 1) := by decide +kernel
theorem dX0_leastChange_29 : decode cX0_leastChange 29 = .ok (.getfield 12, 3) := by decide +kernel
theorem dX0_leastChange_32 : decode cX0_leastChange 32 = .ok (.getfield 63, 3) := by decide +kernel
theorem dX0_leastChange_35 : decode cX0_leastChange 35 = .ok (.iload 4, 2) := by decide +kernel
theorem dX0_leastChange_37 : decode cX0_leastChange 37 = .ok (.iaload, 1) := by decide +kernel
theorem dX0_leastChange_38 : decode cX0_leastChange 38 = .ok (.istore 5, 2) := by decide +kernel
theorem dX0_leastChange_40 : decode cX0_leastChange 40 = .ok (.aload_n 0, 1) := by decide +kernel
theorem dX0_leastChange_41 : decode cX0_leastChange 41 = .ok (.iload_n 1, 1) := by decide +kernel
theorem dX0_leastChange_42 : decode cX0_leastChange 42 = .ok (.aload_n 0, 1) := by decide +kernel
theorem dX0_leastChange_43 : decode cX0_leastChange 43 = .ok (.getfield 21, 3) := by decide +kernel
theorem dX0_leastChange_46 : decode cX0_leastChange 46 = .ok (.iconst 2, 1) := by decide +kernel
theorem dX0_leastChange_47 : decode cX0_leastChange 47 = .ok (.iload 5, 2) := by decide +kernel
theorem dX0_leastChange_49 : decode cX0_leastChange 49 = .ok (.iconst 0, 1) := by decide +kernel
theorem dX0_leastChange_50 : decode cX0_leastChange 50 = .ok (.invokevirtual 32, 3) := by decide +kernel
theorem dX0_leastChange_53 : decode cX0_leastChange 53 = .ok (.invokevirtual 40, 3) := by decide +kernel
theorem dX0_leastChange_56 : decode cX0_leastChange 56 = .ok (.istore 6, 2) := by decide +kernel
theorem dX0_leastChange_58 : decode cX0_leastChange 58 = .ok (.iload 6, 2) := by decide +kernel
theorem dX0_leastChange_60 : decode cX0_leastChange 60 = .ok (.aload_n 0, 1) := by decide +kernel
theorem dX0_leastChange_61 : decode cX0_leastChange 61 = .ok (.getfield 21, 3) := by decide +kernel
theorem dX0_leastChange_64 : decode cX0_leastChange 64 = .ok (.iconst 2, 1) := by decide +kernel
theorem dX0_leastChange_65 : decode cX0_leastChange 65 = .ok (.iload 5, 2) := by decide +kernel
theorem dX0_leastChange_67 : decode cX0_leastChange 67 = .ok (.iconst 2, 1) := by decide +kernel
theorem dX0_leastChange_68 : decode cX0_leastChange 68 = .ok (.invokevirtual 32, 3) := by decide +kernel
theorem dX0_leastChange_71 : decode cX0_leastChange 71 = .ok (.isub, 1) := by decide +kernel
theorem dX0_leastChange_72 : decode cX0_leastChange 72 = .ok (.invokestatic 102, 3) := by decide +kernel
theorem dX0_leastChange_75 : decode cX0_leastChange 75 = .ok (.istore 7, 2) := by decide +kernel
theorem dX0_leastChange_77 : decode cX0_leastChange 77 = .ok (.iload_n 2, 1) := by decide +kernel
theorem dX0_leastChange_78 : decode cX0_leastChange 78 = .ok (.iconst (-1), 1) := by decide +kernel
theorem dX0_leastChange_79 : decode cX0_leastChange 79 = .ok (.if_icmp .eq 9, 3) := by decide +kernel
theorem dX0_leastChange_82 : decode cX0_leastChange 82 = .ok (.iload 7, 2) := by decide +kernel
theorem dX0_leastChange_84 : decode cX0_leastChange 84 = .ok (.iload_n 3, 1) := by decide +kernel
theorem dX0_leastChange_85 : decode cX0_leastChange 85 = .ok (.if_icmp .ge 15, 3) := by decide +kernel
theorem dX0_leastChange_88 : decode cX0_leastChange 88 = .ok (.iload 7, 2) := by decide +kernel
theorem dX0_leastChange_90 : decode cX0_leastChange 90 = .ok (.istore_n 3, 1) := by decide +kernel
theorem dX0_leastChange_91 : decode cX0_leastChange 91 = .ok (.bipush 10, 2) := by decide +kernel
theorem dX0_leastChange_93 : decode cX0_leastChange 93 = .ok (.iload 5, 2) := by decide +kernel
theorem dX0_leastChange_95 : decode cX0_leastChange 95 = .ok (.imul, 1) := by decide +kernel
theorem dX0_leastChange_96 : decode cX0_leastChange 96 = .ok (.iload 6, 2) := by decide +kernel
theorem dX0_leastChange_98 : decode cX0_leastChange 98 = .ok (.iadd, 1) := by decide +kernel
theorem dX0_leastChange_99 : decode cX0_leastChange 99 = .ok (.istore_n 2, 1) := by decide +kernel
theorem dX0_leastChange_100 : decode cX0_leastChange 100 = .ok (.iinc 4 1, 3) := by decide +kernel
theorem dX0_leastChange_103 : decode cX0_leastChange 103 = .ok (.goto (-85), 3) := by decide +kernel
theorem dX0_leastChange_106 : decode cX0_leastChange 106 = .ok (.iload_n 2, 1) := by decide +kernel
theorem dX0_leastChange_107 : decode cX0_leastChange 107 = .ok (.ireturn, 1) := by decide +kernel
theorem dX1_init_0 : decode cX1_init 0 = .ok (.aload_n 0, 1) := by decide +kernel
theorem dX1_init_1 : decode cX1_init 1 = .ok (.invokespecial 3, 3) := by decide +kernel
theorem dX1_init_4 : decode cX1_init 4 = .ok (.aload_n 0, 1) := by decide +kernel
theorem dX1_init_5 : decode cX1_init 5 = .ok (.bipush 15, 2) := by decide +kernel
theorem dX1_init_7 : decode cX1_init 7 = .ok (.newarray .int, 2) := by decide +kernel
theorem dX1_init_9 : decode cX1_init 9 = .ok (.putfield 9, 3) := by decide +kernel
theorem dX1_init_12 : decode cX1_init 12 = .ok (.aload_n 0, 1) := by decide +kernel
theorem dX1_init_13 : decode cX1_init 13 = .ok (.bipush 15, 2) := by decide +kernel
theorem dX1_init_15 : decode cX1_init 15 = .ok (.newarray .int, 2) := by decide +kernel
theorem dX1_init_17 : decode cX1_init 17 = .ok (.putfield 15, 3) := by decide +kernel
theorem dX1_init_20 : decode cX1_init 20 = .ok (.return_, 1) := by decide +kernel
theorem dX1_clear_0 : decode cX1_clear 0 = .ok (.aload_n 0, 1) := by decide +kernel
theorem dX1_clear_1 : decode cX1_clear 1 = .ok (.iconst 0, 1) := by decide +kernel
theorem dX1_clear_2 : decode cX1_clear 2 = .ok (.putfield 18, 3) := by decide +kernel
theorem dX1_clear_5 : decode cX1_clear 5 = .ok (.return_, 1) := by decide +kernel
theorem dX1_add_0 : decode cX1_add 0 = .ok (.aload_n 0, 1) := by decide +kernel
theorem dX1_add_1 : decode cX1_add 1 = .ok (.getfield 9, 3) := by decide +kernel
theorem dX1_add_4 : decode cX1_add 4 = .ok (.aload_n 0, 1) := by decide +kernel
theorem dX1_add_5 : decode cX1_add 5 = .ok (.getfield 18, 3) := by decide +kernel
theorem dX1_add_8 : decode cX1_add 8 = .ok (.iload_n 1, 1) := by decide +kernel
theorem dX1_add_9 : decode cX1_add 9 = .ok (.iastore, 1) := by decide +kernel
theorem dX1_add_10 : decode cX1_add 10 = .ok (.aload_n 0, 1) := by decide +kernel
theorem dX1_add_11 : decode cX1_add 11 = .ok (.getfield 15, 3) := by decide +kernel
theorem dX1_add_14 : decode cX1_add 14 = .ok (.aload_n 0, 1) := by decide +kernel
theorem dX1_add_15 : decode cX1_add 15 = .ok (.getfield 18, 3) := by decide +kernel
theorem dX1_add_18 : decode cX1_add 18 = .ok (.iload_n 2, 1) := by decide +kernel
theorem dX1_add_19 : decode cX1_add 19 = .ok (.iastore, 1) := by decide +kernel
theorem dX1_add_20 : decode cX1_add 20 = .ok (.aload_n 0, 1) := by decide +kernel
theorem dX1_add_21 : decode cX1_add 21 = .ok (.dup, 1) := by decide +kernel
theorem dX1_add_22 : decode cX1_add 22 = .ok (.getfield 18, 3) := by decide +kernel
theorem dX1_add_25 : decode cX1_add 25 = .ok (.iconst 1, 1) := by decide +kernel
theorem dX1_add_26 : decode cX1_add 26 = .ok (.iadd, 1) := by decide +kernel
theorem dX1_add_27 : decode cX1_add 27 = .ok (.putfield 18, 3) := by decide +kernel
theorem dX1_add_30 : decode cX1_add 30 = .ok (.return_, 1) := by decide +kernel
theorem dX1_firstWrong_0 : decode cX1_firstWrong 0 = .ok (.iconst 0, 1) := by decide +kernel
theorem dX1_firstWrong_1 : decode cX1_firstWrong 1 = .ok (.istore_n 2, 1) := by decide +kernel
theorem dX1_firstWrong_2 : decode cX1_firstWrong 2 = .ok (.iload_n 2, 1) := by decide +kernel
theorem dX1_firstWrong_3 : decode cX1_firstWrong 3 = .ok (.aload_n 0, 1) := by decide +kernel
theorem dX1_firstWrong_4 : decode cX1_firstWrong 4 = .ok (.getfield 18, 3) := by decide +kernel
theorem dX1_firstWrong_7 : decode cX1_firstWrong 7 = .ok (.if_icmp .ge 30, 3) := by decide +kernel
theorem dX1_firstWrong_10 : decode cX1_firstWrong 10 = .ok (.aload_n 1, 1) := by decide +kernel
theorem dX1_firstWrong_11 : decode cX1_firstWrong 11 = .ok (.aload_n 0, 1) := by decide +kernel
theorem dX1_firstWrong_12 : decode cX1_firstWrong 12 = .ok (.getfield 9, 3) := by decide +kernel
theorem dX1_firstWrong_15 : decode cX1_firstWrong 15 = .ok (.iload_n 2, 1) := by decide +kernel
theorem dX1_firstWrong_16 : decode cX1_firstWrong 16 = .ok (.iaload, 1) := by decide +kernel
theorem dX1_firstWrong_17 : decode cX1_firstWrong 17 = .ok (.invokevirtual 22, 3) := by decide +kernel
theorem dX1_firstWrong_20 : decode cX1_firstWrong 20 = .ok (.aload_n 0, 1) := by decide +kernel
theorem dX1_firstWrong_21 : decode cX1_firstWrong 21 = .ok (.getfield 15, 3) := by decide +kernel
theorem dX1_firstWrong_24 : decode cX1_firstWrong 24 = .ok (.iload_n 2, 1) := by decide +kernel
theorem dX1_firstWrong_25 : decode cX1_firstWrong 25 = .ok (.iaload, 1) := by decide +kernel
theorem dX1_firstWrong_26 : decode cX1_firstWrong 26 = .ok (.if_icmp .eq 5, 3) := by decide +kernel
theorem dX1_firstWrong_29 : decode cX1_firstWrong 29 = .ok (.iload_n 2, 1) := by decide +kernel
theorem dX1_firstWrong_30 : decode cX1_firstWrong 30 = .ok (.ireturn, 1) := by decide +kernel
theorem dX1_firstWrong_31 : decode cX1_firstWrong 31 = .ok (.iinc 2 1, 3) := by decide +kernel
theorem dX1_firstWrong_34 : decode cX1_firstWrong 34 = .ok (.goto (-32), 3) := by decide +kernel
theorem dX1_firstWrong_37 : decode cX1_firstWrong 37 = .ok (.iconst (-1), 1) := by decide +kernel
theorem dX1_firstWrong_38 : decode cX1_firstWrong 38 = .ok (.ireturn, 1) := by decide +kernel
theorem dX2_init_0 : decode cX2_init 0 = .ok (.aload_n 0, 1) := by decide +kernel
theorem dX2_init_1 : decode cX2_init 1 = .ok (.invokespecial 3, 3) := by decide +kernel
theorem dX2_init_4 : decode cX2_init 4 = .ok (.aload_n 0, 1) := by decide +kernel
theorem dX2_init_5 : decode cX2_init 5 = .ok (.bipush 12, 2) := by decide +kernel
theorem dX2_init_7 : decode cX2_init 7 = .ok (.newarray .int, 2) := by decide +kernel
theorem dX2_init_9 : decode cX2_init 9 = .ok (.putfield 9, 3) := by decide +kernel
theorem dX2_init_12 : decode cX2_init 12 = .ok (.aload_n 0, 1) := by decide +kernel
theorem dX2_init_13 : decode cX2_init 13 = .ok (.bipush 6, 2) := by decide +kernel
theorem dX2_init_15 : decode cX2_init 15 = .ok (.newarray .int, 2) := by decide +kernel
theorem dX2_init_17 : decode cX2_init 17 = .ok (.putfield 15, 3) := by decide +kernel
theorem dX2_init_20 : decode cX2_init 20 = .ok (.return_, 1) := by decide +kernel
theorem dX2_layOut_0 : decode cX2_layOut 0 = .ok (.aload_n 0, 1) := by decide +kernel
theorem dX2_layOut_1 : decode cX2_layOut 1 = .ok (.iconst 0, 1) := by decide +kernel
theorem dX2_layOut_2 : decode cX2_layOut 2 = .ok (.putfield 18, 3) := by decide +kernel
theorem dX2_layOut_5 : decode cX2_layOut 5 = .ok (.aload_n 0, 1) := by decide +kernel
theorem dX2_layOut_6 : decode cX2_layOut 6 = .ok (.iconst 0, 1) := by decide +kernel
theorem dX2_layOut_7 : decode cX2_layOut 7 = .ok (.putfield 22, 3) := by decide +kernel
theorem dX2_layOut_10 : decode cX2_layOut 10 = .ok (.iconst 0, 1) := by decide +kernel
theorem dX2_layOut_11 : decode cX2_layOut 11 = .ok (.istore_n 2, 1) := by decide +kernel
theorem dX2_layOut_12 : decode cX2_layOut 12 = .ok (.iload_n 2, 1) := by decide +kernel
theorem dX2_layOut_13 : decode cX2_layOut 13 = .ok (.bipush 12, 2) := by decide +kernel
theorem dX2_layOut_15 : decode cX2_layOut 15 = .ok (.if_icmp .ge 50, 3) := by decide +kernel
theorem dX2_layOut_18 : decode cX2_layOut 18 = .ok (.aload_n 0, 1) := by decide +kernel
theorem dX2_layOut_19 : decode cX2_layOut 19 = .ok (.getfield 9, 3) := by decide +kernel
theorem dX2_layOut_22 : decode cX2_layOut 22 = .ok (.iload_n 2, 1) := by decide +kernel
theorem dX2_layOut_23 : decode cX2_layOut 23 = .ok (.bipush 6, 2) := by decide +kernel
theorem dX2_layOut_25 : decode cX2_layOut 25 = .ok (.iastore, 1) := by decide +kernel
theorem dX2_layOut_26 : decode cX2_layOut 26 = .ok (.iload_n 2, 1) := by decide +kernel
theorem dX2_layOut_27 : decode cX2_layOut 27 = .ok (.aload_n 1, 1) := by decide +kernel
theorem dX2_layOut_28 : decode cX2_layOut 28 = .ok (.getfield 25, 3) := by decide +kernel
theorem dX2_layOut_31 : decode cX2_layOut 31 = .ok (.iconst 1, 1) := by decide +kernel
theorem dX2_layOut_32 : decode cX2_layOut 32 = .ok (.iaload, 1) := by decide +kernel
theorem dX2_layOut_33 : decode cX2_layOut 33 = .ok (.if_icmp .ge 26, 3) := by decide +kernel
theorem dX2_layOut_36 : decode cX2_layOut 36 = .ok (.aload_n 1, 1) := by decide +kernel
theorem dX2_layOut_37 : decode cX2_layOut 37 = .ok (.iconst 1, 1) := by decide +kernel
theorem dX2_layOut_38 : decode cX2_layOut 38 = .ok (.iload_n 2, 1) := by decide +kernel
theorem dX2_layOut_39 : decode cX2_layOut 39 = .ok (.iconst 3, 1) := by decide +kernel
theorem dX2_layOut_40 : decode cX2_layOut 40 = .ok (.invokevirtual 30, 3) := by decide +kernel
theorem dX2_layOut_43 : decode cX2_layOut 43 = .ok (.iconst 1, 1) := by decide +kernel
theorem dX2_layOut_44 : decode cX2_layOut 44 = .ok (.if_icmp .ne 15, 3) := by decide +kernel
theorem dX2_layOut_47 : decode cX2_layOut 47 = .ok (.aload_n 0, 1) := by decide +kernel
theorem dX2_layOut_48 : decode cX2_layOut 48 = .ok (.dup, 1) := by decide +kernel
theorem dX2_layOut_49 : decode cX2_layOut 49 = .ok (.getfield 18, 3) := by decide +kernel
theorem dX2_layOut_52 : decode cX2_layOut 52 = .ok (.iconst 1, 1) := by decide +kernel
theorem dX2_layOut_53 : decode cX2_layOut 53 = .ok (.iload_n 2, 1) := by decide +kernel
theorem dX2_layOut_54 : decode cX2_layOut 54 = .ok (.ishl, 1) := by decide +kernel
theorem dX2_layOut_55 : decode cX2_layOut 55 = .ok (.ior, 1) := by decide +kernel
theorem dX2_layOut_56 : decode cX2_layOut 56 = .ok (.putfield 18, 3) := by decide +kernel
theorem dX2_layOut_59 : decode cX2_layOut 59 = .ok (.iinc 2 1, 3) := by decide +kernel
theorem dX2_layOut_62 : decode cX2_layOut 62 = .ok (.goto (-50), 3) := by decide +kernel
theorem dX2_layOut_65 : decode cX2_layOut 65 = .ok (.iconst 0, 1) := by decide +kernel
theorem dX2_layOut_66 : decode cX2_layOut 66 = .ok (.istore_n 2, 1) := by decide +kernel
theorem dX2_layOut_67 : decode cX2_layOut 67 = .ok (.iload_n 2, 1) := by decide +kernel
theorem dX2_layOut_68 : decode cX2_layOut 68 = .ok (.bipush 6, 2) := by decide +kernel
theorem dX2_layOut_70 : decode cX2_layOut 70 = .ok (.if_icmp .ge 16, 3) := by decide +kernel
theorem dX2_layOut_73 : decode cX2_layOut 73 = .ok (.aload_n 0, 1) := by decide +kernel
theorem dX2_layOut_74 : decode cX2_layOut 74 = .ok (.getfield 15, 3) := by decide +kernel
theorem dX2_layOut_77 : decode cX2_layOut 77 = .ok (.iload_n 2, 1) := by decide +kernel
theorem dX2_layOut_78 : decode cX2_layOut 78 = .ok (.iload_n 2, 1) := by decide +kernel
theorem dX2_layOut_79 : decode cX2_layOut 79 = .ok (.iastore, 1) := by decide +kernel
theorem dX2_layOut_80 : decode cX2_layOut 80 = .ok (.iinc 2 1, 3) := by decide +kernel
theorem dX2_layOut_83 : decode cX2_layOut 83 = .ok (.goto (-16), 3) := by decide +kernel
theorem dX2_layOut_86 : decode cX2_layOut 86 = .ok (.return_, 1) := by decide +kernel
theorem dX2_copyFrom_0 : decode cX2_copyFrom 0 = .ok (.aload_n 1, 1) := by decide +kernel
theorem dX2_copyFrom_1 : decode cX2_copyFrom 1 = .ok (.getfield 9, 3) := by decide +kernel
theorem dX2_copyFrom_4 : decode cX2_copyFrom 4 = .ok (.iconst 0, 1) := by decide +kernel
theorem dX2_copyFrom_5 : decode cX2_copyFrom 5 = .ok (.aload_n 0, 1) := by decide +kernel
theorem dX2_copyFrom_6 : decode cX2_copyFrom 6 = .ok (.getfield 9, 3) := by decide +kernel
theorem dX2_copyFrom_9 : decode cX2_copyFrom 9 = .ok (.iconst 0, 1) := by decide +kernel
theorem dX2_copyFrom_10 : decode cX2_copyFrom 10 = .ok (.bipush 12, 2) := by decide +kernel
theorem dX2_copyFrom_12 : decode cX2_copyFrom 12 = .ok (.invokestatic 34, 3) := by decide +kernel
theorem dX2_copyFrom_15 : decode cX2_copyFrom 15 = .ok (.aload_n 1, 1) := by decide +kernel
theorem dX2_copyFrom_16 : decode cX2_copyFrom 16 = .ok (.getfield 15, 3) := by decide +kernel
theorem dX2_copyFrom_19 : decode cX2_copyFrom 19 = .ok (.iconst 0, 1) := by decide +kernel
theorem dX2_copyFrom_20 : decode cX2_copyFrom 20 = .ok (.aload_n 0, 1) := by decide +kernel
theorem dX2_copyFrom_21 : decode cX2_copyFrom 21 = .ok (.getfield 15, 3) := by decide +kernel
theorem dX2_copyFrom_24 : decode cX2_copyFrom 24 = .ok (.iconst 0, 1) := by decide +kernel
theorem dX2_copyFrom_25 : decode cX2_copyFrom 25 = .ok (.bipush 6, 2) := by decide +kernel
theorem dX2_copyFrom_27 : decode cX2_copyFrom 27 = .ok (.invokestatic 34, 3) := by decide +kernel
theorem dX2_copyFrom_30 : decode cX2_copyFrom 30 = .ok (.aload_n 0, 1) := by decide +kernel
theorem dX2_copyFrom_31 : decode cX2_copyFrom 31 = .ok (.aload_n 1, 1) := by decide +kernel
theorem dX2_copyFrom_32 : decode cX2_copyFrom 32 = .ok (.getfield 18, 3) := by decide +kernel
theorem dX2_copyFrom_35 : decode cX2_copyFrom 35 = .ok (.putfield 18, 3) := by decide +kernel
theorem dX2_copyFrom_38 : decode cX2_copyFrom 38 = .ok (.aload_n 0, 1) := by decide +kernel
theorem dX2_copyFrom_39 : decode cX2_copyFrom 39 = .ok (.aload_n 1, 1) := by decide +kernel
theorem dX2_copyFrom_40 : decode cX2_copyFrom 40 = .ok (.getfield 22, 3) := by decide +kernel
theorem dX2_copyFrom_43 : decode cX2_copyFrom 43 = .ok (.putfield 22, 3) := by decide +kernel
theorem dX2_copyFrom_46 : decode cX2_copyFrom 46 = .ok (.return_, 1) := by decide +kernel
theorem dX3_init_0 : decode cX3_init 0 = .ok (.aload_n 0, 1) := by decide +kernel
theorem dX3_init_1 : decode cX3_init 1 = .ok (.invokespecial 1, 3) := by decide +kernel
theorem dX3_init_4 : decode cX3_init 4 = .ok (.return_, 1) := by decide +kernel
theorem dX3_next_0 : decode cX3_next 0 = .ok (.aload_n 0, 1) := by decide +kernel
theorem dX3_next_1 : decode cX3_next 1 = .ok (.aload_n 0, 1) := by decide +kernel
theorem dX3_next_2 : decode cX3_next 2 = .ok (.getfield 7, 3) := by decide +kernel
theorem dX3_next_5 : decode cX3_next 5 = .ok (.i2l, 1) := by decide +kernel
theorem dX3_next_6 : decode cX3_next 6 = .ok (.ldc2_w 13, 3) := by decide +kernel
theorem dX3_next_9 : decode cX3_next 9 = .ok (.lmul, 1) := by decide +kernel
theorem dX3_next_10 : decode cX3_next 10 = .ok (.ldc2_w 15, 3) := by decide +kernel
theorem dX3_next_13 : decode cX3_next 13 = .ok (.ladd, 1) := by decide +kernel
theorem dX3_next_14 : decode cX3_next 14 = .ok (.ldc2_w 17, 3) := by decide +kernel
theorem dX3_next_17 : decode cX3_next 17 = .ok (.lrem, 1) := by decide +kernel
theorem dX3_next_18 : decode cX3_next 18 = .ok (.l2i, 1) := by decide +kernel
theorem dX3_next_19 : decode cX3_next 19 = .ok (.putfield 7, 3) := by decide +kernel
theorem dX3_next_22 : decode cX3_next 22 = .ok (.iload_n 1, 1) := by decide +kernel
theorem dX3_next_23 : decode cX3_next 23 = .ok (.ifCond .le 15, 3) := by decide +kernel
theorem dX3_next_26 : decode cX3_next 26 = .ok (.aload_n 0, 1) := by decide +kernel
theorem dX3_next_27 : decode cX3_next 27 = .ok (.getfield 7, 3) := by decide +kernel
theorem dX3_next_30 : decode cX3_next 30 = .ok (.ldc 19, 2) := by decide +kernel
theorem dX3_next_32 : decode cX3_next 32 = .ok (.idiv, 1) := by decide +kernel
theorem dX3_next_33 : decode cX3_next 33 = .ok (.iload_n 1, 1) := by decide +kernel
theorem dX3_next_34 : decode cX3_next 34 = .ok (.irem, 1) := by decide +kernel
theorem dX3_next_35 : decode cX3_next 35 = .ok (.goto 4, 3) := by decide +kernel
theorem dX3_next_38 : decode cX3_next 38 = .ok (.iconst 0, 1) := by decide +kernel
theorem dX3_next_39 : decode cX3_next 39 = .ok (.ireturn, 1) := by decide +kernel
theorem dX4_init_0 : decode cX4_init 0 = .ok (.aload_n 0, 1) := by decide +kernel
theorem dX4_init_1 : decode cX4_init 1 = .ok (.invokespecial 3, 3) := by decide +kernel
theorem dX4_init_4 : decode cX4_init 4 = .ok (.aload_n 0, 1) := by decide +kernel
theorem dX4_init_5 : decode cX4_init 5 = .ok (.bipush 12, 2) := by decide +kernel
theorem dX4_init_7 : decode cX4_init 7 = .ok (.newarray .int, 2) := by decide +kernel
theorem dX4_init_9 : decode cX4_init 9 = .ok (.putfield 9, 3) := by decide +kernel
theorem dX4_init_12 : decode cX4_init 12 = .ok (.aload_n 0, 1) := by decide +kernel
theorem dX4_init_13 : decode cX4_init 13 = .ok (.bipush 120, 2) := by decide +kernel
theorem dX4_init_15 : decode cX4_init 15 = .ok (.newarray .int, 2) := by decide +kernel
theorem dX4_init_17 : decode cX4_init 17 = .ok (.putfield 15, 3) := by decide +kernel
theorem dX4_init_20 : decode cX4_init 20 = .ok (.aload_n 0, 1) := by decide +kernel
theorem dX4_init_21 : decode cX4_init 21 = .ok (.aload_n 1, 1) := by decide +kernel
theorem dX4_init_22 : decode cX4_init 22 = .ok (.putfield 18, 3) := by decide +kernel
theorem dX4_init_25 : decode cX4_init 25 = .ok (.return_, 1) := by decide +kernel
theorem dX4_passing_0 : decode cX4_passing 0 = .ok (.iconst 0, 1) := by decide +kernel
theorem dX4_passing_1 : decode cX4_passing 1 = .ok (.istore_n 2, 1) := by decide +kernel
theorem dX4_passing_2 : decode cX4_passing 2 = .ok (.iconst 0, 1) := by decide +kernel
theorem dX4_passing_3 : decode cX4_passing 3 = .ok (.istore_n 3, 1) := by decide +kernel
theorem dX4_passing_4 : decode cX4_passing 4 = .ok (.iload_n 3, 1) := by decide +kernel
theorem dX4_passing_5 : decode cX4_passing 5 = .ok (.aload_n 0, 1) := by decide +kernel
theorem dX4_passing_6 : decode cX4_passing 6 = .ok (.getfield 18, 3) := by decide +kernel
theorem dX4_passing_9 : decode cX4_passing 9 = .ok (.iconst 1, 1) := by decide +kernel
theorem dX4_passing_10 : decode cX4_passing 10 = .ok (.invokevirtual 22, 3) := by decide +kernel
theorem dX4_passing_13 : decode cX4_passing 13 = .ok (.if_icmp .ge 43, 3) := by decide +kernel
theorem dX4_passing_16 : decode cX4_passing 16 = .ok (.aload_n 0, 1) := by decide +kernel
theorem dX4_passing_17 : decode cX4_passing 17 = .ok (.getfield 18, 3) := by decide +kernel
theorem dX4_passing_20 : decode cX4_passing 20 = .ok (.iload_n 3, 1) := by decide +kernel
theorem dX4_passing_21 : decode cX4_passing 21 = .ok (.iload_n 1, 1) := by decide +kernel
theorem dX4_passing_22 : decode cX4_passing 22 = .ok (.bipush 30, 2) := by decide +kernel
theorem dX4_passing_24 : decode cX4_passing 24 = .ok (.idiv, 1) := by decide +kernel
theorem dX4_passing_25 : decode cX4_passing 25 = .ok (.invokevirtual 28, 3) := by decide +kernel
theorem dX4_passing_28 : decode cX4_passing 28 = .ok (.iload_n 1, 1) := by decide +kernel
theorem dX4_passing_29 : decode cX4_passing 29 = .ok (.bipush 10, 2) := by decide +kernel
theorem dX4_passing_31 : decode cX4_passing 31 = .ok (.idiv, 1) := by decide +kernel
theorem dX4_passing_32 : decode cX4_passing 32 = .ok (.iconst 3, 1) := by decide +kernel
theorem dX4_passing_33 : decode cX4_passing 33 = .ok (.irem, 1) := by decide +kernel
theorem dX4_passing_34 : decode cX4_passing 34 = .ok (.iload_n 1, 1) := by decide +kernel
theorem dX4_passing_35 : decode cX4_passing 35 = .ok (.bipush 10, 2) := by decide +kernel
theorem dX4_passing_37 : decode cX4_passing 37 = .ok (.irem, 1) := by decide +kernel
theorem dX4_passing_38 : decode cX4_passing 38 = .ok (.invokestatic 32, 3) := by decide +kernel
theorem dX4_passing_41 : decode cX4_passing 41 = .ok (.ifCond .eq 9, 3) := by decide +kernel
theorem dX4_passing_44 : decode cX4_passing 44 = .ok (.iload_n 2, 1) := by decide +kernel
theorem dX4_passing_45 : decode cX4_passing 45 = .ok (.iconst 1, 1) := by decide +kernel
theorem dX4_passing_46 : decode cX4_passing 46 = .ok (.iload_n 3, 1) := by decide +kernel
theorem dX4_passing_47 : decode cX4_passing 47 = .ok (.ishl, 1) := by decide +kernel
theorem dX4_passing_48 : decode cX4_passing 48 = .ok (.ior, 1) := by decide +kernel
theorem dX4_passing_49 : decode cX4_passing 49 = .ok (.istore_n 2, 1) := by decide +kernel
theorem dX4_passing_50 : decode cX4_passing 50 = .ok (.iinc 3 1, 3) := by decide +kernel
theorem dX4_passing_53 : decode cX4_passing 53 = .ok (.goto (-49), 3) := by decide +kernel
theorem dX4_passing_56 : decode cX4_passing 56 = .ok (.iload_n 2, 1) := by decide +kernel
theorem dX4_passing_57 : decode cX4_passing 57 = .ok (.ireturn, 1) := by decide +kernel
theorem dX4_fits_0 : decode cX4_fits 0 = .ok (.iload_n 1, 1) := by decide +kernel
theorem dX4_fits_1 : decode cX4_fits 1 = .ok (.iload_n 0, 1) := by decide +kernel
theorem dX4_fits_2 : decode cX4_fits 2 = .ok (.iconst (-1), 1) := by decide +kernel
theorem dX4_fits_3 : decode cX4_fits 3 = .ok (.ixor, 1) := by decide +kernel
theorem dX4_fits_4 : decode cX4_fits 4 = .ok (.iand, 1) := by decide +kernel
theorem dX4_fits_5 : decode cX4_fits 5 = .ok (.ifCond .ne 13, 3) := by decide +kernel
theorem dX4_fits_8 : decode cX4_fits 8 = .ok (.iload_n 2, 1) := by decide +kernel
theorem dX4_fits_9 : decode cX4_fits 9 = .ok (.iload_n 0, 1) := by decide +kernel
theorem dX4_fits_10 : decode cX4_fits 10 = .ok (.iand, 1) := by decide +kernel
theorem dX4_fits_11 : decode cX4_fits 11 = .ok (.ifCond .ne 7, 3) := by decide +kernel
theorem dX4_fits_14 : decode cX4_fits 14 = .ok (.iconst 1, 1) := by decide +kernel
theorem dX4_fits_15 : decode cX4_fits 15 = .ok (.goto 4, 3) := by decide +kernel
theorem dX4_fits_18 : decode cX4_fits 18 = .ok (.iconst 0, 1) := by decide +kernel
theorem dX4_fits_19 : decode cX4_fits 19 = .ok (.ireturn, 1) := by decide +kernel
theorem dX4_fitFor_0 : decode cX4_fitFor 0 = .ok (.aload_n 0, 1) := by decide +kernel
theorem dX4_fitFor_1 : decode cX4_fitFor 1 = .ok (.getfield 18, 3) := by decide +kernel
theorem dX4_fitFor_4 : decode cX4_fitFor 4 = .ok (.iload_n 1, 1) := by decide +kernel
theorem dX4_fitFor_5 : decode cX4_fitFor 5 = .ok (.invokevirtual 36, 3) := by decide +kernel
theorem dX4_fitFor_8 : decode cX4_fitFor 8 = .ok (.istore_n 3, 1) := by decide +kernel
theorem dX4_fitFor_9 : decode cX4_fitFor 9 = .ok (.aload_n 0, 1) := by decide +kernel
theorem dX4_fitFor_10 : decode cX4_fitFor 10 = .ok (.getfield 18, 3) := by decide +kernel
theorem dX4_fitFor_13 : decode cX4_fitFor 13 = .ok (.iconst 0, 1) := by decide +kernel
theorem dX4_fitFor_14 : decode cX4_fitFor 14 = .ok (.bipush 6, 2) := by decide +kernel
theorem dX4_fitFor_16 : decode cX4_fitFor 16 = .ok (.invokevirtual 39, 3) := by decide +kernel
theorem dX4_fitFor_19 : decode cX4_fitFor 19 = .ok (.iload_n 3, 1) := by decide +kernel
theorem dX4_fitFor_20 : decode cX4_fitFor 20 = .ok (.iconst (-1), 1) := by decide +kernel
theorem dX4_fitFor_21 : decode cX4_fitFor 21 = .ok (.ixor, 1) := by decide +kernel
theorem dX4_fitFor_22 : decode cX4_fitFor 22 = .ok (.iand, 1) := by decide +kernel
theorem dX4_fitFor_23 : decode cX4_fitFor 23 = .ok (.istore 4, 2) := by decide +kernel
theorem dX4_fitFor_25 : decode cX4_fitFor 25 = .ok (.iconst 0, 1) := by decide +kernel
theorem dX4_fitFor_26 : decode cX4_fitFor 26 = .ok (.istore 5, 2) := by decide +kernel
theorem dX4_fitFor_28 : decode cX4_fitFor 28 = .ok (.iconst 0, 1) := by decide +kernel
theorem dX4_fitFor_29 : decode cX4_fitFor 29 = .ok (.istore 6, 2) := by decide +kernel
theorem dX4_fitFor_31 : decode cX4_fitFor 31 = .ok (.iload 6, 2) := by decide +kernel
theorem dX4_fitFor_33 : decode cX4_fitFor 33 = .ok (.bipush 120, 2) := by decide +kernel
theorem dX4_fitFor_35 : decode cX4_fitFor 35 = .ok (.if_icmp .ge 36, 3) := by decide +kernel
theorem dX4_fitFor_38 : decode cX4_fitFor 38 = .ok (.aload_n 0, 1) := by decide +kernel
theorem dX4_fitFor_39 : decode cX4_fitFor 39 = .ok (.iload 6, 2) := by decide +kernel
theorem dX4_fitFor_41 : decode cX4_fitFor 41 = .ok (.invokevirtual 42, 3) := by decide +kernel
theorem dX4_fitFor_44 : decode cX4_fitFor 44 = .ok (.iload_n 3, 1) := by decide +kernel
theorem dX4_fitFor_45 : decode cX4_fitFor 45 = .ok (.iload 4, 2) := by decide +kernel
theorem dX4_fitFor_47 : decode cX4_fitFor 47 = .ok (.invokestatic 45, 3) := by decide +kernel
theorem dX4_fitFor_50 : decode cX4_fitFor 50 = .ok (.ifCond .eq 15, 3) := by decide +kernel
theorem dX4_fitFor_53 : decode cX4_fitFor 53 = .ok (.iload 5, 2) := by decide +kernel
theorem dX4_fitFor_55 : decode cX4_fitFor 55 = .ok (.iload_n 2, 1) := by decide +kernel
theorem dX4_fitFor_56 : decode cX4_fitFor 56 = .ok (.if_icmp .ne 6, 3) := by decide +kernel
theorem dX4_fitFor_59 : decode cX4_fitFor 59 = .ok (.iload 6, 2) := by decide +kernel
theorem dX4_fitFor_61 : decode cX4_fitFor 61 = .ok (.ireturn, 1) := by decide +kernel
theorem dX4_fitFor_62 : decode cX4_fitFor 62 = .ok (.iinc 5 1, 3) := by decide +kernel
theorem dX4_fitFor_65 : decode cX4_fitFor 65 = .ok (.iinc 6 1, 3) := by decide +kernel
theorem dX4_fitFor_68 : decode cX4_fitFor 68 = .ok (.goto (-37), 3) := by decide +kernel
theorem dX4_fitFor_71 : decode cX4_fitFor 71 = .ok (.iload_n 2, 1) := by decide +kernel
theorem dX4_fitFor_72 : decode cX4_fitFor 72 = .ok (.iconst (-1), 1) := by decide +kernel
theorem dX4_fitFor_73 : decode cX4_fitFor 73 = .ok (.if_icmp .ne 8, 3) := by decide +kernel
theorem dX4_fitFor_76 : decode cX4_fitFor 76 = .ok (.iload 5, 2) := by decide +kernel
theorem dX4_fitFor_78 : decode cX4_fitFor 78 = .ok (.goto 4, 3) := by decide +kernel
theorem dX4_fitFor_81 : decode cX4_fitFor 81 = .ok (.iconst (-1), 1) := by decide +kernel
theorem dX4_fitFor_82 : decode cX4_fitFor 82 = .ok (.ireturn, 1) := by decide +kernel
theorem dX4_bestTeller_0 : decode cX4_bestTeller 0 = .ok (.aload_n 0, 1) := by decide +kernel
theorem dX4_bestTeller_1 : decode cX4_bestTeller 1 = .ok (.iload_n 1, 1) := by decide +kernel
theorem dX4_bestTeller_2 : decode cX4_bestTeller 2 = .ok (.invokevirtual 48, 3) := by decide +kernel
theorem dX4_bestTeller_5 : decode cX4_bestTeller 5 = .ok (.istore_n 2, 1) := by decide +kernel
theorem dX4_bestTeller_6 : decode cX4_bestTeller 6 = .ok (.aload_n 0, 1) := by decide +kernel
theorem dX4_bestTeller_7 : decode cX4_bestTeller 7 = .ok (.getfield 18, 3) := by decide +kernel
theorem dX4_bestTeller_10 : decode cX4_bestTeller 10 = .ok (.bipush 6, 2) := by decide +kernel
theorem dX4_bestTeller_12 : decode cX4_bestTeller 12 = .ok (.invokevirtual 36, 3) := by decide +kernel
theorem dX4_bestTeller_15 : decode cX4_bestTeller 15 = .ok (.istore_n 3, 1) := by decide +kernel
theorem dX4_bestTeller_16 : decode cX4_bestTeller 16 = .ok (.iconst (-1), 1) := by decide +kernel
theorem dX4_bestTeller_17 : decode cX4_bestTeller 17 = .ok (.istore 4, 2) := by decide +kernel
theorem dX4_bestTeller_19 : decode cX4_bestTeller 19 = .ok (.iload_n 2, 1) := by decide +kernel
theorem dX4_bestTeller_20 : decode cX4_bestTeller 20 = .ok (.istore 5, 2) := by decide +kernel
theorem dX4_bestTeller_22 : decode cX4_bestTeller 22 = .ok (.iconst 0, 1) := by decide +kernel
theorem dX4_bestTeller_23 : decode cX4_bestTeller 23 = .ok (.istore 6, 2) := by decide +kernel
theorem dX4_bestTeller_25 : decode cX4_bestTeller 25 = .ok (.iload 6, 2) := by decide +kernel
theorem dX4_bestTeller_27 : decode cX4_bestTeller 27 = .ok (.aload_n 0, 1) := by decide +kernel
theorem dX4_bestTeller_28 : decode cX4_bestTeller 28 = .ok (.getfield 18, 3) := by decide +kernel
theorem dX4_bestTeller_31 : decode cX4_bestTeller 31 = .ok (.iconst 1, 1) := by decide +kernel
theorem dX4_bestTeller_32 : decode cX4_bestTeller 32 = .ok (.invokevirtual 22, 3) := by decide +kernel
theorem dX4_bestTeller_35 : decode cX4_bestTeller 35 = .ok (.if_icmp .ge 54, 3) := by decide +kernel
theorem dX4_bestTeller_38 : decode cX4_bestTeller 38 = .ok (.aload_n 0, 1) := by decide +kernel
theorem dX4_bestTeller_39 : decode cX4_bestTeller 39 = .ok (.getfield 9, 3) := by decide +kernel
theorem dX4_bestTeller_42 : decode cX4_bestTeller 42 = .ok (.iload 6, 2) := by decide +kernel
theorem dX4_bestTeller_44 : decode cX4_bestTeller 44 = .ok (.iaload, 1) := by decide +kernel
theorem dX4_bestTeller_45 : decode cX4_bestTeller 45 = .ok (.iload_n 2, 1) := by decide +kernel
theorem dX4_bestTeller_46 : decode cX4_bestTeller 46 = .ok (.aload_n 0, 1) := by decide +kernel
theorem dX4_bestTeller_47 : decode cX4_bestTeller 47 = .ok (.getfield 9, 3) := by decide +kernel
theorem dX4_bestTeller_50 : decode cX4_bestTeller 50 = .ok (.iload 6, 2) := by decide +kernel
theorem dX4_bestTeller_52 : decode cX4_bestTeller 52 = .ok (.iaload, 1) := by decide +kernel
theorem dX4_bestTeller_53 : decode cX4_bestTeller 53 = .ok (.isub, 1) := by decide +kernel
theorem dX4_bestTeller_54 : decode cX4_bestTeller 54 = .ok (.invokestatic 51, 3) := by decide +kernel
theorem dX4_bestTeller_57 : decode cX4_bestTeller 57 = .ok (.istore 7, 2) := by decide +kernel
theorem dX4_bestTeller_59 : decode cX4_bestTeller 59 = .ok (.iload_n 3, 1) := by decide +kernel
theorem dX4_bestTeller_60 : decode cX4_bestTeller 60 = .ok (.iload 6, 2) := by decide +kernel
theorem dX4_bestTeller_62 : decode cX4_bestTeller 62 = .ok (.invokestatic 56, 3) := by decide +kernel
theorem dX4_bestTeller_65 : decode cX4_bestTeller 65 = .ok (.ifCond .eq 18, 3) := by decide +kernel
theorem dX4_bestTeller_68 : decode cX4_bestTeller 68 = .ok (.iload 7, 2) := by decide +kernel
theorem dX4_bestTeller_70 : decode cX4_bestTeller 70 = .ok (.iload 5, 2) := by decide +kernel
theorem dX4_bestTeller_72 : decode cX4_bestTeller 72 = .ok (.if_icmp .ge 11, 3) := by decide +kernel
theorem dX4_bestTeller_75 : decode cX4_bestTeller 75 = .ok (.iload 7, 2) := by decide +kernel
theorem dX4_bestTeller_77 : decode cX4_bestTeller 77 = .ok (.istore 5, 2) := by decide +kernel
theorem dX4_bestTeller_79 : decode cX4_bestTeller 79 = .ok (.iload 6, 2) := by decide +kernel
theorem dX4_bestTeller_81 : decode cX4_bestTeller 81 = .ok (.istore 4, 2) := by decide +kernel
theorem dX4_bestTeller_83 : decode cX4_bestTeller 83 = .ok (.iinc 6 1, 3) := by decide +kernel
theorem dX4_bestTeller_86 : decode cX4_bestTeller 86 = .ok (.goto (-61), 3) := by decide +kernel
theorem dX4_bestTeller_89 : decode cX4_bestTeller 89 = .ok (.iload 4, 2) := by decide +kernel
theorem dX4_bestTeller_91 : decode cX4_bestTeller 91 = .ok (.ireturn, 1) := by decide +kernel
theorem dX4_countPassed_0 : decode cX4_countPassed 0 = .ok (.aload_n 0, 1) := by decide +kernel
theorem dX4_countPassed_1 : decode cX4_countPassed 1 = .ok (.getfield 18, 3) := by decide +kernel
theorem dX4_countPassed_4 : decode cX4_countPassed 4 = .ok (.iload_n 1, 1) := by decide +kernel
theorem dX4_countPassed_5 : decode cX4_countPassed 5 = .ok (.invokevirtual 36, 3) := by decide +kernel
theorem dX4_countPassed_8 : decode cX4_countPassed 8 = .ok (.istore_n 2, 1) := by decide +kernel
theorem dX4_countPassed_9 : decode cX4_countPassed 9 = .ok (.aload_n 0, 1) := by decide +kernel
theorem dX4_countPassed_10 : decode cX4_countPassed 10 = .ok (.getfield 18, 3) := by decide +kernel
theorem dX4_countPassed_13 : decode cX4_countPassed 13 = .ok (.iconst 0, 1) := by decide +kernel
theorem dX4_countPassed_14 : decode cX4_countPassed 14 = .ok (.bipush 6, 2) := by decide +kernel
theorem dX4_countPassed_16 : decode cX4_countPassed 16 = .ok (.invokevirtual 39, 3) := by decide +kernel
theorem dX4_countPassed_19 : decode cX4_countPassed 19 = .ok (.iload_n 2, 1) := by decide +kernel
theorem dX4_countPassed_20 : decode cX4_countPassed 20 = .ok (.iconst (-1), 1) := by decide +kernel
theorem dX4_countPassed_21 : decode cX4_countPassed 21 = .ok (.ixor, 1) := by decide +kernel
theorem dX4_countPassed_22 : decode cX4_countPassed 22 = .ok (.iand, 1) := by decide +kernel
theorem dX4_countPassed_23 : decode cX4_countPassed 23 = .ok (.istore_n 3, 1) := by decide +kernel
theorem dX4_countPassed_24 : decode cX4_countPassed 24 = .ok (.iconst 0, 1) := by decide +kernel
theorem dX4_countPassed_25 : decode cX4_countPassed 25 = .ok (.istore 4, 2) := by decide +kernel
theorem dX4_countPassed_27 : decode cX4_countPassed 27 = .ok (.iconst 0, 1) := by decide +kernel
theorem dX4_countPassed_28 : decode cX4_countPassed 28 = .ok (.istore 5, 2) := by decide +kernel
theorem dX4_countPassed_30 : decode cX4_countPassed 30 = .ok (.iload 5, 2) := by decide +kernel
theorem dX4_countPassed_32 : decode cX4_countPassed 32 = .ok (.bipush 12, 2) := by decide +kernel
theorem dX4_countPassed_34 : decode cX4_countPassed 34 = .ok (.if_icmp .ge 17, 3) := by decide +kernel
theorem dX4_countPassed_37 : decode cX4_countPassed 37 = .ok (.aload_n 0, 1) := by decide +kernel
theorem dX4_countPassed_38 : decode cX4_countPassed 38 = .ok (.getfield 9, 3) := by decide +kernel
theorem dX4_countPassed_41 : decode cX4_countPassed 41 = .ok (.iload 5, 2) := by decide +kernel
theorem dX4_countPassed_43 : decode cX4_countPassed 43 = .ok (.iconst 0, 1) := by decide +kernel
theorem dX4_countPassed_44 : decode cX4_countPassed 44 = .ok (.iastore, 1) := by decide +kernel
theorem dX4_countPassed_45 : decode cX4_countPassed 45 = .ok (.iinc 5 1, 3) := by decide +kernel
theorem dX4_countPassed_48 : decode cX4_countPassed 48 = .ok (.goto (-18), 3) := by decide +kernel
theorem dX4_countPassed_51 : decode cX4_countPassed 51 = .ok (.iconst 0, 1) := by decide +kernel
theorem dX4_countPassed_52 : decode cX4_countPassed 52 = .ok (.istore 5, 2) := by decide +kernel
theorem dX4_countPassed_54 : decode cX4_countPassed 54 = .ok (.iload 5, 2) := by decide +kernel
theorem dX4_countPassed_56 : decode cX4_countPassed 56 = .ok (.bipush 120, 2) := by decide +kernel
theorem dX4_countPassed_58 : decode cX4_countPassed 58 = .ok (.if_icmp .ge 63, 3) := by decide +kernel
theorem dX4_countPassed_61 : decode cX4_countPassed 61 = .ok (.aload_n 0, 1) := by decide +kernel
theorem dX4_countPassed_62 : decode cX4_countPassed 62 = .ok (.iload 5, 2) := by decide +kernel
theorem dX4_countPassed_64 : decode cX4_countPassed 64 = .ok (.invokevirtual 42, 3) := by decide +kernel
theorem dX4_countPassed_67 : decode cX4_countPassed 67 = .ok (.istore 6, 2) := by decide +kernel
theorem dX4_countPassed_69 : decode cX4_countPassed 69 = .ok (.iload 6, 2) := by decide +kernel
theorem dX4_countPassed_71 : decode cX4_countPassed 71 = .ok (.iload_n 2, 1) := by decide +kernel
theorem dX4_countPassed_72 : decode cX4_countPassed 72 = .ok (.iload_n 3, 1) := by decide +kernel
theorem dX4_countPassed_73 : decode cX4_countPassed 73 = .ok (.invokestatic 45, 3) := by decide +kernel
theorem dX4_countPassed_76 : decode cX4_countPassed 76 = .ok (.ifCond .eq 39, 3) := by decide +kernel
theorem dX4_countPassed_79 : decode cX4_countPassed 79 = .ok (.iinc 4 1, 3) := by decide +kernel
theorem dX4_countPassed_82 : decode cX4_countPassed 82 = .ok (.iconst 0, 1) := by decide +kernel
theorem dX4_countPassed_83 : decode cX4_countPassed 83 = .ok (.istore 7, 2) := by decide +kernel
theorem dX4_countPassed_85 : decode cX4_countPassed 85 = .ok (.iload 7, 2) := by decide +kernel
theorem dX4_countPassed_87 : decode cX4_countPassed 87 = .ok (.bipush 12, 2) := by decide +kernel
theorem dX4_countPassed_89 : decode cX4_countPassed 89 = .ok (.if_icmp .ge 26, 3) := by decide +kernel
theorem dX4_countPassed_92 : decode cX4_countPassed 92 = .ok (.aload_n 0, 1) := by decide +kernel
theorem dX4_countPassed_93 : decode cX4_countPassed 93 = .ok (.getfield 9, 3) := by decide +kernel
theorem dX4_countPassed_96 : decode cX4_countPassed 96 = .ok (.iload 7, 2) := by decide +kernel
theorem dX4_countPassed_98 : decode cX4_countPassed 98 = .ok (.dup2, 1) := by decide +kernel
theorem dX4_countPassed_99 : decode cX4_countPassed 99 = .ok (.iaload, 1) := by decide +kernel
theorem dX4_countPassed_100 : decode cX4_countPassed 100 = .ok (.iload 6, 2) := by decide +kernel
theorem dX4_countPassed_102 : decode cX4_countPassed 102 = .ok (.iload 7, 2) := by decide +kernel
theorem dX4_countPassed_104 : decode cX4_countPassed 104 = .ok (.ishr, 1) := by decide +kernel
theorem dX4_countPassed_105 : decode cX4_countPassed 105 = .ok (.iconst 1, 1) := by decide +kernel
theorem dX4_countPassed_106 : decode cX4_countPassed 106 = .ok (.iand, 1) := by decide +kernel
theorem dX4_countPassed_107 : decode cX4_countPassed 107 = .ok (.iadd, 1) := by decide +kernel
theorem dX4_countPassed_108 : decode cX4_countPassed 108 = .ok (.iastore, 1) := by decide +kernel
theorem dX4_countPassed_109 : decode cX4_countPassed 109 = .ok (.iinc 7 1, 3) := by decide +kernel
theorem dX4_countPassed_112 : decode cX4_countPassed 112 = .ok (.goto (-27), 3) := by decide +kernel
theorem dX4_countPassed_115 : decode cX4_countPassed 115 = .ok (.iinc 5 1, 3) := by decide +kernel
theorem dX4_countPassed_118 : decode cX4_countPassed 118 = .ok (.goto (-64), 3) := by decide +kernel
theorem dX4_countPassed_121 : decode cX4_countPassed 121 = .ok (.iload 4, 2) := by decide +kernel
theorem dX4_countPassed_123 : decode cX4_countPassed 123 = .ok (.ireturn, 1) := by decide +kernel
theorem dX4_fewestTeachers_0 : decode cX4_fewestTeachers 0 = .ok (.aload_n 0, 1) := by decide +kernel
theorem dX4_fewestTeachers_1 : decode cX4_fewestTeachers 1 = .ok (.iload_n 1, 1) := by decide +kernel
theorem dX4_fewestTeachers_2 : decode cX4_fewestTeachers 2 = .ok (.invokevirtual 60, 3) := by decide +kernel
theorem dX4_fewestTeachers_5 : decode cX4_fewestTeachers 5 = .ok (.aload_n 0, 1) := by decide +kernel
theorem dX4_fewestTeachers_6 : decode cX4_fewestTeachers 6 = .ok (.getfield 18, 3) := by decide +kernel
theorem dX4_fewestTeachers_9 : decode cX4_fewestTeachers 9 = .ok (.iconst 1, 1) := by decide +kernel
theorem dX4_fewestTeachers_10 : decode cX4_fewestTeachers 10 = .ok (.invokevirtual 22, 3) := by decide +kernel
theorem dX4_fewestTeachers_13 : decode cX4_fewestTeachers 13 = .ok (.istore_n 2, 1) := by decide +kernel
theorem dX4_fewestTeachers_14 : decode cX4_fewestTeachers 14 = .ok (.iconst 1, 1) := by decide +kernel
theorem dX4_fewestTeachers_15 : decode cX4_fewestTeachers 15 = .ok (.iload_n 2, 1) := by decide +kernel
theorem dX4_fewestTeachers_16 : decode cX4_fewestTeachers 16 = .ok (.ishl, 1) := by decide +kernel
theorem dX4_fewestTeachers_17 : decode cX4_fewestTeachers 17 = .ok (.iconst 1, 1) := by decide +kernel
theorem dX4_fewestTeachers_18 : decode cX4_fewestTeachers 18 = .ok (.isub, 1) := by decide +kernel
theorem dX4_fewestTeachers_19 : decode cX4_fewestTeachers 19 = .ok (.istore_n 3, 1) := by decide +kernel
theorem dX4_fewestTeachers_20 : decode cX4_fewestTeachers 20 = .ok (.iload_n 2, 1) := by decide +kernel
theorem dX4_fewestTeachers_21 : decode cX4_fewestTeachers 21 = .ok (.istore 4, 2) := by decide +kernel
theorem dX4_fewestTeachers_23 : decode cX4_fewestTeachers 23 = .ok (.iconst 0, 1) := by decide +kernel
theorem dX4_fewestTeachers_24 : decode cX4_fewestTeachers 24 = .ok (.istore 5, 2) := by decide +kernel
theorem dX4_fewestTeachers_26 : decode cX4_fewestTeachers 26 = .ok (.iload 5, 2) := by decide +kernel
theorem dX4_fewestTeachers_28 : decode cX4_fewestTeachers 28 = .ok (.iconst 1, 1) := by decide +kernel
theorem dX4_fewestTeachers_29 : decode cX4_fewestTeachers 29 = .ok (.iload_n 2, 1) := by decide +kernel
theorem dX4_fewestTeachers_30 : decode cX4_fewestTeachers 30 = .ok (.ishl, 1) := by decide +kernel
theorem dX4_fewestTeachers_31 : decode cX4_fewestTeachers 31 = .ok (.if_icmp .ge 38, 3) := by decide +kernel
theorem dX4_fewestTeachers_34 : decode cX4_fewestTeachers 34 = .ok (.iload 5, 2) := by decide +kernel
theorem dX4_fewestTeachers_36 : decode cX4_fewestTeachers 36 = .ok (.invokestatic 64, 3) := by decide +kernel
theorem dX4_fewestTeachers_39 : decode cX4_fewestTeachers 39 = .ok (.iload 4, 2) := by decide +kernel
theorem dX4_fewestTeachers_41 : decode cX4_fewestTeachers 41 = .ok (.if_icmp .ge 22, 3) := by decide +kernel
theorem dX4_fewestTeachers_44 : decode cX4_fewestTeachers 44 = .ok (.aload_n 0, 1) := by decide +kernel
theorem dX4_fewestTeachers_45 : decode cX4_fewestTeachers 45 = .ok (.iload 5, 2) := by decide +kernel
theorem dX4_fewestTeachers_47 : decode cX4_fewestTeachers 47 = .ok (.invokevirtual 69, 3) := by decide +kernel
theorem dX4_fewestTeachers_50 : decode cX4_fewestTeachers 50 = .ok (.ifCond .eq 13, 3) := by decide +kernel
theorem dX4_fewestTeachers_53 : decode cX4_fewestTeachers 53 = .ok (.iload 5, 2) := by decide +kernel
theorem dX4_fewestTeachers_55 : decode cX4_fewestTeachers 55 = .ok (.istore_n 3, 1) := by decide +kernel
theorem dX4_fewestTeachers_56 : decode cX4_fewestTeachers 56 = .ok (.iload 5, 2) := by decide +kernel
theorem dX4_fewestTeachers_58 : decode cX4_fewestTeachers 58 = .ok (.invokestatic 64, 3) := by decide +kernel
theorem dX4_fewestTeachers_61 : decode cX4_fewestTeachers 61 = .ok (.istore 4, 2) := by decide +kernel
theorem dX4_fewestTeachers_63 : decode cX4_fewestTeachers 63 = .ok (.iinc 5 1, 3) := by decide +kernel
theorem dX4_fewestTeachers_66 : decode cX4_fewestTeachers 66 = .ok (.goto (-40), 3) := by decide +kernel
theorem dX4_fewestTeachers_69 : decode cX4_fewestTeachers 69 = .ok (.iload_n 3, 1) := by decide +kernel
theorem dX4_fewestTeachers_70 : decode cX4_fewestTeachers 70 = .ok (.ireturn, 1) := by decide +kernel
theorem dX4_gatherPartings_0 : decode cX4_gatherPartings 0 = .ok (.aload_n 0, 1) := by decide +kernel
theorem dX4_gatherPartings_1 : decode cX4_gatherPartings 1 = .ok (.iload_n 1, 1) := by decide +kernel
theorem dX4_gatherPartings_2 : decode cX4_gatherPartings 2 = .ok (.invokevirtual 42, 3) := by decide +kernel
theorem dX4_gatherPartings_5 : decode cX4_gatherPartings 5 = .ok (.istore_n 2, 1) := by decide +kernel
theorem dX4_gatherPartings_6 : decode cX4_gatherPartings 6 = .ok (.aload_n 0, 1) := by decide +kernel
theorem dX4_gatherPartings_7 : decode cX4_gatherPartings 7 = .ok (.iconst 0, 1) := by decide +kernel
theorem dX4_gatherPartings_8 : decode cX4_gatherPartings 8 = .ok (.putfield 73, 3) := by decide +kernel
theorem dX4_gatherPartings_11 : decode cX4_gatherPartings 11 = .ok (.iconst 0, 1) := by decide +kernel
theorem dX4_gatherPartings_12 : decode cX4_gatherPartings 12 = .ok (.istore_n 3, 1) := by decide +kernel
theorem dX4_gatherPartings_13 : decode cX4_gatherPartings 13 = .ok (.iload_n 3, 1) := by decide +kernel
theorem dX4_gatherPartings_14 : decode cX4_gatherPartings 14 = .ok (.bipush 120, 2) := by decide +kernel
theorem dX4_gatherPartings_16 : decode cX4_gatherPartings 16 = .ok (.if_icmp .ge 53, 3) := by decide +kernel
theorem dX4_gatherPartings_19 : decode cX4_gatherPartings 19 = .ok (.iload_n 2, 1) := by decide +kernel
theorem dX4_gatherPartings_20 : decode cX4_gatherPartings 20 = .ok (.aload_n 0, 1) := by decide +kernel
theorem dX4_gatherPartings_21 : decode cX4_gatherPartings 21 = .ok (.iload_n 3, 1) := by decide +kernel
theorem dX4_gatherPartings_22 : decode cX4_gatherPartings 22 = .ok (.invokevirtual 42, 3) := by decide +kernel
theorem dX4_gatherPartings_25 : decode cX4_gatherPartings 25 = .ok (.ixor, 1) := by decide +kernel
theorem dX4_gatherPartings_26 : decode cX4_gatherPartings 26 = .ok (.istore 4, 2) := by decide +kernel
theorem dX4_gatherPartings_28 : decode cX4_gatherPartings 28 = .ok (.iload 4, 2) := by decide +kernel
theorem dX4_gatherPartings_30 : decode cX4_gatherPartings 30 = .ok (.ifCond .eq 33, 3) := by decide +kernel
theorem dX4_gatherPartings_33 : decode cX4_gatherPartings 33 = .ok (.aload_n 0, 1) := by decide +kernel
theorem dX4_gatherPartings_34 : decode cX4_gatherPartings 34 = .ok (.iload 4, 2) := by decide +kernel
theorem dX4_gatherPartings_36 : decode cX4_gatherPartings 36 = .ok (.invokevirtual 77, 3) := by decide +kernel
theorem dX4_gatherPartings_39 : decode cX4_gatherPartings 39 = .ok (.ifCond .ne 24, 3) := by decide +kernel
theorem dX4_gatherPartings_42 : decode cX4_gatherPartings 42 = .ok (.aload_n 0, 1) := by decide +kernel
theorem dX4_gatherPartings_43 : decode cX4_gatherPartings 43 = .ok (.getfield 15, 3) := by decide +kernel
theorem dX4_gatherPartings_46 : decode cX4_gatherPartings 46 = .ok (.aload_n 0, 1) := by decide +kernel
theorem dX4_gatherPartings_47 : decode cX4_gatherPartings 47 = .ok (.getfield 73, 3) := by decide +kernel
theorem dX4_gatherPartings_50 : decode cX4_gatherPartings 50 = .ok (.iload 4, 2) := by decide +kernel
theorem dX4_gatherPartings_52 : decode cX4_gatherPartings 52 = .ok (.iastore, 1) := by decide +kernel
theorem dX4_gatherPartings_53 : decode cX4_gatherPartings 53 = .ok (.aload_n 0, 1) := by decide +kernel
theorem dX4_gatherPartings_54 : decode cX4_gatherPartings 54 = .ok (.dup, 1) := by decide +kernel
theorem dX4_gatherPartings_55 : decode cX4_gatherPartings 55 = .ok (.getfield 73, 3) := by decide +kernel
theorem dX4_gatherPartings_58 : decode cX4_gatherPartings 58 = .ok (.iconst 1, 1) := by decide +kernel
theorem dX4_gatherPartings_59 : decode cX4_gatherPartings 59 = .ok (.iadd, 1) := by decide +kernel
theorem dX4_gatherPartings_60 : decode cX4_gatherPartings 60 = .ok (.putfield 73, 3) := by decide +kernel
theorem dX4_gatherPartings_63 : decode cX4_gatherPartings 63 = .ok (.iinc 3 1, 3) := by decide +kernel
theorem dX4_gatherPartings_66 : decode cX4_gatherPartings 66 = .ok (.goto (-53), 3) := by decide +kernel
theorem dX4_gatherPartings_69 : decode cX4_gatherPartings 69 = .ok (.return_, 1) := by decide +kernel
theorem dX4_isMetAnyway_0 : decode cX4_isMetAnyway 0 = .ok (.iconst 0, 1) := by decide +kernel
theorem dX4_isMetAnyway_1 : decode cX4_isMetAnyway 1 = .ok (.istore_n 2, 1) := by decide +kernel
theorem dX4_isMetAnyway_2 : decode cX4_isMetAnyway 2 = .ok (.iload_n 2, 1) := by decide +kernel
theorem dX4_isMetAnyway_3 : decode cX4_isMetAnyway 3 = .ok (.aload_n 0, 1) := by decide +kernel
theorem dX4_isMetAnyway_4 : decode cX4_isMetAnyway 4 = .ok (.getfield 73, 3) := by decide +kernel
theorem dX4_isMetAnyway_7 : decode cX4_isMetAnyway 7 = .ok (.if_icmp .ge 24, 3) := by decide +kernel
theorem dX4_isMetAnyway_10 : decode cX4_isMetAnyway 10 = .ok (.aload_n 0, 1) := by decide +kernel
theorem dX4_isMetAnyway_11 : decode cX4_isMetAnyway 11 = .ok (.getfield 15, 3) := by decide +kernel
theorem dX4_isMetAnyway_14 : decode cX4_isMetAnyway 14 = .ok (.iload_n 2, 1) := by decide +kernel
theorem dX4_isMetAnyway_15 : decode cX4_isMetAnyway 15 = .ok (.iaload, 1) := by decide +kernel
theorem dX4_isMetAnyway_16 : decode cX4_isMetAnyway 16 = .ok (.iload_n 1, 1) := by decide +kernel
theorem dX4_isMetAnyway_17 : decode cX4_isMetAnyway 17 = .ok (.iconst (-1), 1) := by decide +kernel
theorem dX4_isMetAnyway_18 : decode cX4_isMetAnyway 18 = .ok (.ixor, 1) := by decide +kernel
theorem dX4_isMetAnyway_19 : decode cX4_isMetAnyway 19 = .ok (.iand, 1) := by decide +kernel
theorem dX4_isMetAnyway_20 : decode cX4_isMetAnyway 20 = .ok (.ifCond .ne 5, 3) := by decide +kernel
theorem dX4_isMetAnyway_23 : decode cX4_isMetAnyway 23 = .ok (.iconst 1, 1) := by decide +kernel
theorem dX4_isMetAnyway_24 : decode cX4_isMetAnyway 24 = .ok (.ireturn, 1) := by decide +kernel
theorem dX4_isMetAnyway_25 : decode cX4_isMetAnyway 25 = .ok (.iinc 2 1, 3) := by decide +kernel
theorem dX4_isMetAnyway_28 : decode cX4_isMetAnyway 28 = .ok (.goto (-26), 3) := by decide +kernel
theorem dX4_isMetAnyway_31 : decode cX4_isMetAnyway 31 = .ok (.iconst 0, 1) := by decide +kernel
theorem dX4_isMetAnyway_32 : decode cX4_isMetAnyway 32 = .ok (.ireturn, 1) := by decide +kernel
theorem dX4_meetsAllPartings_0 : decode cX4_meetsAllPartings 0 = .ok (.iconst 0, 1) := by decide +kernel
theorem dX4_meetsAllPartings_1 : decode cX4_meetsAllPartings 1 = .ok (.istore_n 2, 1) := by decide +kernel
theorem dX4_meetsAllPartings_2 : decode cX4_meetsAllPartings 2 = .ok (.iload_n 2, 1) := by decide +kernel
theorem dX4_meetsAllPartings_3 : decode cX4_meetsAllPartings 3 = .ok (.aload_n 0, 1) := by decide +kernel
theorem dX4_meetsAllPartings_4 : decode cX4_meetsAllPartings 4 = .ok (.getfield 73, 3) := by decide +kernel
theorem dX4_meetsAllPartings_7 : decode cX4_meetsAllPartings 7 = .ok (.if_icmp .ge 22, 3) := by decide +kernel
theorem dX4_meetsAllPartings_10 : decode cX4_meetsAllPartings 10 = .ok (.aload_n 0, 1) := by decide +kernel
theorem dX4_meetsAllPartings_11 : decode cX4_meetsAllPartings 11 = .ok (.getfield 15, 3) := by decide +kernel
theorem dX4_meetsAllPartings_14 : decode cX4_meetsAllPartings 14 = .ok (.iload_n 2, 1) := by decide +kernel
theorem dX4_meetsAllPartings_15 : decode cX4_meetsAllPartings 15 = .ok (.iaload, 1) := by decide +kernel
theorem dX4_meetsAllPartings_16 : decode cX4_meetsAllPartings 16 = .ok (.iload_n 1, 1) := by decide +kernel
theorem dX4_meetsAllPartings_17 : decode cX4_meetsAllPartings 17 = .ok (.iand, 1) := by decide +kernel
theorem dX4_meetsAllPartings_18 : decode cX4_meetsAllPartings 18 = .ok (.ifCond .ne 5, 3) := by decide +kernel
theorem dX4_meetsAllPartings_21 : decode cX4_meetsAllPartings 21 = .ok (.iconst 0, 1) := by decide +kernel
theorem dX4_meetsAllPartings_22 : decode cX4_meetsAllPartings 22 = .ok (.ireturn, 1) := by decide +kernel
theorem dX4_meetsAllPartings_23 : decode cX4_meetsAllPartings 23 = .ok (.iinc 2 1, 3) := by decide +kernel
theorem dX4_meetsAllPartings_26 : decode cX4_meetsAllPartings 26 = .ok (.goto (-24), 3) := by decide +kernel
theorem dX4_meetsAllPartings_29 : decode cX4_meetsAllPartings 29 = .ok (.iconst 1, 1) := by decide +kernel
theorem dX4_meetsAllPartings_30 : decode cX4_meetsAllPartings 30 = .ok (.ireturn, 1) := by decide +kernel
theorem dX5_init_0 : decode cX5_init 0 = .ok (.aload_n 0, 1) := by decide +kernel
theorem dX5_init_1 : decode cX5_init 1 = .ok (.invokespecial 1, 3) := by decide +kernel
theorem dX5_init_4 : decode cX5_init 4 = .ok (.aload_n 0, 1) := by decide +kernel
theorem dX5_init_5 : decode cX5_init 5 = .ok (.new 7, 3) := by decide +kernel
theorem dX5_init_8 : decode cX5_init 8 = .ok (.dup, 1) := by decide +kernel
theorem dX5_init_9 : decode cX5_init 9 = .ok (.invokespecial 9, 3) := by decide +kernel
theorem dX5_init_12 : decode cX5_init 12 = .ok (.putfield 10, 3) := by decide +kernel
theorem dX5_init_15 : decode cX5_init 15 = .ok (.return_, 1) := by decide +kernel
theorem dX6_init_0 : decode cX6_init 0 = .ok (.aload_n 0, 1) := by decide +kernel
theorem dX6_init_1 : decode cX6_init 1 = .ok (.invokespecial 3, 3) := by decide +kernel
theorem dX6_init_4 : decode cX6_init 4 = .ok (.aload_n 0, 1) := by decide +kernel
theorem dX6_init_5 : decode cX6_init 5 = .ok (.bipush 12, 2) := by decide +kernel
theorem dX6_init_7 : decode cX6_init 7 = .ok (.newarray .int, 2) := by decide +kernel
theorem dX6_init_9 : decode cX6_init 9 = .ok (.putfield 9, 3) := by decide +kernel
theorem dX6_init_12 : decode cX6_init 12 = .ok (.aload_n 0, 1) := by decide +kernel
theorem dX6_init_13 : decode cX6_init 13 = .ok (.iconst 5, 1) := by decide +kernel
theorem dX6_init_14 : decode cX6_init 14 = .ok (.newarray .int, 2) := by decide +kernel
theorem dX6_init_16 : decode cX6_init 16 = .ok (.putfield 15, 3) := by decide +kernel
theorem dX6_init_19 : decode cX6_init 19 = .ok (.aload_n 0, 1) := by decide +kernel
theorem dX6_init_20 : decode cX6_init 20 = .ok (.iconst 5, 1) := by decide +kernel
theorem dX6_init_21 : decode cX6_init 21 = .ok (.newarray .int, 2) := by decide +kernel
theorem dX6_init_23 : decode cX6_init 23 = .ok (.putfield 18, 3) := by decide +kernel
theorem dX6_init_26 : decode cX6_init 26 = .ok (.aload_n 0, 1) := by decide +kernel
theorem dX6_init_27 : decode cX6_init 27 = .ok (.aload_n 1, 1) := by decide +kernel
theorem dX6_init_28 : decode cX6_init 28 = .ok (.putfield 21, 3) := by decide +kernel
theorem dX6_init_31 : decode cX6_init 31 = .ok (.return_, 1) := by decide +kernel
theorem dX6_solve_0 : decode cX6_solve 0 = .ok (.aload_n 0, 1) := by decide +kernel
theorem dX6_solve_1 : decode cX6_solve 1 = .ok (.invokevirtual 25, 3) := by decide +kernel
theorem dX6_solve_4 : decode cX6_solve 4 = .ok (.aload_n 0, 1) := by decide +kernel
theorem dX6_solve_5 : decode cX6_solve 5 = .ok (.getfield 21, 3) := by decide +kernel
theorem dX6_solve_8 : decode cX6_solve 8 = .ok (.bipush 6, 2) := by decide +kernel
theorem dX6_solve_10 : decode cX6_solve 10 = .ok (.invokevirtual 28, 3) := by decide +kernel
theorem dX6_solve_13 : decode cX6_solve 13 = .ok (.istore_n 1, 1) := by decide +kernel
theorem dX6_solve_14 : decode cX6_solve 14 = .ok (.aload_n 0, 1) := by decide +kernel
theorem dX6_solve_15 : decode cX6_solve 15 = .ok (.invokevirtual 34, 3) := by decide +kernel
theorem dX6_solve_18 : decode cX6_solve 18 = .ok (.istore_n 2, 1) := by decide +kernel
theorem dX6_solve_19 : decode cX6_solve 19 = .ok (.aload_n 0, 1) := by decide +kernel
theorem dX6_solve_20 : decode cX6_solve 20 = .ok (.iload_n 1, 1) := by decide +kernel
theorem dX6_solve_21 : decode cX6_solve 21 = .ok (.iload_n 2, 1) := by decide +kernel
theorem dX6_solve_22 : decode cX6_solve 22 = .ok (.invokevirtual 38, 3) := by decide +kernel
theorem dX6_solve_25 : decode cX6_solve 25 = .ok (.istore_n 3, 1) := by decide +kernel
theorem dX6_solve_26 : decode cX6_solve 26 = .ok (.iconst 0, 1) := by decide +kernel
theorem dX6_solve_27 : decode cX6_solve 27 = .ok (.istore 4, 2) := by decide +kernel
theorem dX6_solve_29 : decode cX6_solve 29 = .ok (.iload 4, 2) := by decide +kernel
theorem dX6_solve_31 : decode cX6_solve 31 = .ok (.iconst 5, 1) := by decide +kernel
theorem dX6_solve_32 : decode cX6_solve 32 = .ok (.if_icmp .ge 84, 3) := by decide +kernel
theorem dX6_solve_35 : decode cX6_solve 35 = .ok (.aload_n 0, 1) := by decide +kernel
theorem dX6_solve_36 : decode cX6_solve 36 = .ok (.getfield 18, 3) := by decide +kernel
theorem dX6_solve_39 : decode cX6_solve 39 = .ok (.iload 4, 2) := by decide +kernel
theorem dX6_solve_41 : decode cX6_solve 41 = .ok (.iconst (-1), 1) := by decide +kernel
theorem dX6_solve_42 : decode cX6_solve 42 = .ok (.iastore, 1) := by decide +kernel
theorem dX6_solve_43 : decode cX6_solve 43 = .ok (.iload_n 2, 1) := by decide +kernel
theorem dX6_solve_44 : decode cX6_solve 44 = .ok (.iload 4, 2) := by decide +kernel
theorem dX6_solve_46 : decode cX6_solve 46 = .ok (.invokestatic 42, 3) := by decide +kernel
theorem dX6_solve_49 : decode cX6_solve 49 = .ok (.ifCond .eq 61, 3) := by decide +kernel
theorem dX6_solve_52 : decode cX6_solve 52 = .ok (.iload_n 2, 1) := by decide +kernel
theorem dX6_solve_53 : decode cX6_solve 53 = .ok (.iconst 1, 1) := by decide +kernel
theorem dX6_solve_54 : decode cX6_solve 54 = .ok (.iload 4, 2) := by decide +kernel
theorem dX6_solve_56 : decode cX6_solve 56 = .ok (.ishl, 1) := by decide +kernel
theorem dX6_solve_57 : decode cX6_solve 57 = .ok (.iconst (-1), 1) := by decide +kernel
theorem dX6_solve_58 : decode cX6_solve 58 = .ok (.ixor, 1) := by decide +kernel
theorem dX6_solve_59 : decode cX6_solve 59 = .ok (.iand, 1) := by decide +kernel
theorem dX6_solve_60 : decode cX6_solve 60 = .ok (.istore_n 2, 1) := by decide +kernel
theorem dX6_solve_61 : decode cX6_solve 61 = .ok (.aload_n 0, 1) := by decide +kernel
theorem dX6_solve_62 : decode cX6_solve 62 = .ok (.iload 4, 2) := by decide +kernel
theorem dX6_solve_64 : decode cX6_solve 64 = .ok (.iload_n 1, 1) := by decide +kernel
theorem dX6_solve_65 : decode cX6_solve 65 = .ok (.iload_n 2, 1) := by decide +kernel
theorem dX6_solve_66 : decode cX6_solve 66 = .ok (.iload_n 3, 1) := by decide +kernel
theorem dX6_solve_67 : decode cX6_solve 67 = .ok (.invokevirtual 46, 3) := by decide +kernel
theorem dX6_solve_70 : decode cX6_solve 70 = .ok (.istore 5, 2) := by decide +kernel
theorem dX6_solve_72 : decode cX6_solve 72 = .ok (.aload_n 0, 1) := by decide +kernel
theorem dX6_solve_73 : decode cX6_solve 73 = .ok (.getfield 18, 3) := by decide +kernel
theorem dX6_solve_76 : decode cX6_solve 76 = .ok (.iload 4, 2) := by decide +kernel
theorem dX6_solve_78 : decode cX6_solve 78 = .ok (.iload 5, 2) := by decide +kernel
theorem dX6_solve_80 : decode cX6_solve 80 = .ok (.iastore, 1) := by decide +kernel
theorem dX6_solve_81 : decode cX6_solve 81 = .ok (.iload 5, 2) := by decide +kernel
theorem dX6_solve_83 : decode cX6_solve 83 = .ok (.iconst (-1), 1) := by decide +kernel
theorem dX6_solve_84 : decode cX6_solve 84 = .ok (.if_icmp .eq 26, 3) := by decide +kernel
theorem dX6_solve_87 : decode cX6_solve 87 = .ok (.iload_n 1, 1) := by decide +kernel
theorem dX6_solve_88 : decode cX6_solve 88 = .ok (.iconst 1, 1) := by decide +kernel
theorem dX6_solve_89 : decode cX6_solve 89 = .ok (.iload 5, 2) := by decide +kernel
theorem dX6_solve_91 : decode cX6_solve 91 = .ok (.ishl, 1) := by decide +kernel
theorem dX6_solve_92 : decode cX6_solve 92 = .ok (.iconst (-1), 1) := by decide +kernel
theorem dX6_solve_93 : decode cX6_solve 93 = .ok (.ixor, 1) := by decide +kernel
theorem dX6_solve_94 : decode cX6_solve 94 = .ok (.iand, 1) := by decide +kernel
theorem dX6_solve_95 : decode cX6_solve 95 = .ok (.istore_n 1, 1) := by decide +kernel
theorem dX6_solve_96 : decode cX6_solve 96 = .ok (.iload_n 3, 1) := by decide +kernel
theorem dX6_solve_97 : decode cX6_solve 97 = .ok (.sipush 1000, 3) := by decide +kernel
theorem dX6_solve_100 : decode cX6_solve 100 = .ok (.aload_n 0, 1) := by decide +kernel
theorem dX6_solve_101 : decode cX6_solve 101 = .ok (.getfield 9, 3) := by decide +kernel
theorem dX6_solve_104 : decode cX6_solve 104 = .ok (.iload 5, 2) := by decide +kernel
theorem dX6_solve_106 : decode cX6_solve 106 = .ok (.iaload, 1) := by decide +kernel
theorem dX6_solve_107 : decode cX6_solve 107 = .ok (.isub, 1) := by decide +kernel
theorem dX6_solve_108 : decode cX6_solve 108 = .ok (.isub, 1) := by decide +kernel
theorem dX6_solve_109 : decode cX6_solve 109 = .ok (.istore_n 3, 1) := by decide +kernel
theorem dX6_solve_110 : decode cX6_solve 110 = .ok (.iinc 4 1, 3) := by decide +kernel
theorem dX6_solve_113 : decode cX6_solve 113 = .ok (.goto (-84), 3) := by decide +kernel
theorem dX6_solve_116 : decode cX6_solve 116 = .ok (.return_, 1) := by decide +kernel
theorem dX6_howMany_0 : decode cX6_howMany 0 = .ok (.iconst 0, 1) := by decide +kernel
theorem dX6_howMany_1 : decode cX6_howMany 1 = .ok (.istore_n 1, 1) := by decide +kernel
theorem dX6_howMany_2 : decode cX6_howMany 2 = .ok (.iconst 0, 1) := by decide +kernel
theorem dX6_howMany_3 : decode cX6_howMany 3 = .ok (.istore_n 2, 1) := by decide +kernel
theorem dX6_howMany_4 : decode cX6_howMany 4 = .ok (.iload_n 2, 1) := by decide +kernel
theorem dX6_howMany_5 : decode cX6_howMany 5 = .ok (.iconst 5, 1) := by decide +kernel
theorem dX6_howMany_6 : decode cX6_howMany 6 = .ok (.if_icmp .ge 27, 3) := by decide +kernel
theorem dX6_howMany_9 : decode cX6_howMany 9 = .ok (.iload_n 1, 1) := by decide +kernel
theorem dX6_howMany_10 : decode cX6_howMany 10 = .ok (.aload_n 0, 1) := by decide +kernel
theorem dX6_howMany_11 : decode cX6_howMany 11 = .ok (.getfield 18, 3) := by decide +kernel
theorem dX6_howMany_14 : decode cX6_howMany 14 = .ok (.iload_n 2, 1) := by decide +kernel
theorem dX6_howMany_15 : decode cX6_howMany 15 = .ok (.iaload, 1) := by decide +kernel
theorem dX6_howMany_16 : decode cX6_howMany 16 = .ok (.iconst (-1), 1) := by decide +kernel
theorem dX6_howMany_17 : decode cX6_howMany 17 = .ok (.if_icmp .ne 7, 3) := by decide +kernel
theorem dX6_howMany_20 : decode cX6_howMany 20 = .ok (.iconst 0, 1) := by decide +kernel
theorem dX6_howMany_21 : decode cX6_howMany 21 = .ok (.goto 4, 3) := by decide +kernel
theorem dX6_howMany_24 : decode cX6_howMany 24 = .ok (.iconst 1, 1) := by decide +kernel
theorem dX6_howMany_25 : decode cX6_howMany 25 = .ok (.iadd, 1) := by decide +kernel
theorem dX6_howMany_26 : decode cX6_howMany 26 = .ok (.istore_n 1, 1) := by decide +kernel
theorem dX6_howMany_27 : decode cX6_howMany 27 = .ok (.iinc 2 1, 3) := by decide +kernel
theorem dX6_howMany_30 : decode cX6_howMany 30 = .ok (.goto (-26), 3) := by decide +kernel
theorem dX6_howMany_33 : decode cX6_howMany 33 = .ok (.iload_n 1, 1) := by decide +kernel
theorem dX6_howMany_34 : decode cX6_howMany 34 = .ok (.ireturn, 1) := by decide +kernel
theorem dX6_howMuch_0 : decode cX6_howMuch 0 = .ok (.iconst 0, 1) := by decide +kernel
theorem dX6_howMuch_1 : decode cX6_howMuch 1 = .ok (.istore_n 1, 1) := by decide +kernel
theorem dX6_howMuch_2 : decode cX6_howMuch 2 = .ok (.iconst 0, 1) := by decide +kernel
theorem dX6_howMuch_3 : decode cX6_howMuch 3 = .ok (.istore_n 2, 1) := by decide +kernel
theorem dX6_howMuch_4 : decode cX6_howMuch 4 = .ok (.iload_n 2, 1) := by decide +kernel
theorem dX6_howMuch_5 : decode cX6_howMuch 5 = .ok (.iconst 5, 1) := by decide +kernel
theorem dX6_howMuch_6 : decode cX6_howMuch 6 = .ok (.if_icmp .ge 37, 3) := by decide +kernel
theorem dX6_howMuch_9 : decode cX6_howMuch 9 = .ok (.iload_n 1, 1) := by decide +kernel
theorem dX6_howMuch_10 : decode cX6_howMuch 10 = .ok (.aload_n 0, 1) := by decide +kernel
theorem dX6_howMuch_11 : decode cX6_howMuch 11 = .ok (.getfield 18, 3) := by decide +kernel
theorem dX6_howMuch_14 : decode cX6_howMuch 14 = .ok (.iload_n 2, 1) := by decide +kernel
theorem dX6_howMuch_15 : decode cX6_howMuch 15 = .ok (.iaload, 1) := by decide +kernel
theorem dX6_howMuch_16 : decode cX6_howMuch 16 = .ok (.iconst (-1), 1) := by decide +kernel
theorem dX6_howMuch_17 : decode cX6_howMuch 17 = .ok (.if_icmp .ne 7, 3) := by decide +kernel
theorem dX6_howMuch_20 : decode cX6_howMuch 20 = .ok (.iconst 0, 1) := by decide +kernel
theorem dX6_howMuch_21 : decode cX6_howMuch 21 = .ok (.goto 14, 3) := by decide +kernel
theorem dX6_howMuch_24 : decode cX6_howMuch 24 = .ok (.aload_n 0, 1) := by decide +kernel
theorem dX6_howMuch_25 : decode cX6_howMuch 25 = .ok (.getfield 9, 3) := by decide +kernel
theorem dX6_howMuch_28 : decode cX6_howMuch 28 = .ok (.aload_n 0, 1) := by decide +kernel
theorem dX6_howMuch_29 : decode cX6_howMuch 29 = .ok (.getfield 18, 3) := by decide +kernel
theorem dX6_howMuch_32 : decode cX6_howMuch 32 = .ok (.iload_n 2, 1) := by decide +kernel
theorem dX6_howMuch_33 : decode cX6_howMuch 33 = .ok (.iaload, 1) := by decide +kernel
theorem dX6_howMuch_34 : decode cX6_howMuch 34 = .ok (.iaload, 1) := by decide +kernel
theorem dX6_howMuch_35 : decode cX6_howMuch 35 = .ok (.iadd, 1) := by decide +kernel
theorem dX6_howMuch_36 : decode cX6_howMuch 36 = .ok (.istore_n 1, 1) := by decide +kernel
theorem dX6_howMuch_37 : decode cX6_howMuch 37 = .ok (.iinc 2 1, 3) := by decide +kernel
theorem dX6_howMuch_40 : decode cX6_howMuch 40 = .ok (.goto (-36), 3) := by decide +kernel
theorem dX6_howMuch_43 : decode cX6_howMuch 43 = .ok (.iload_n 1, 1) := by decide +kernel
theorem dX6_howMuch_44 : decode cX6_howMuch 44 = .ok (.ireturn, 1) := by decide +kernel
theorem dX6_readWeights_0 : decode cX6_readWeights 0 = .ok (.iconst 0, 1) := by decide +kernel
theorem dX6_readWeights_1 : decode cX6_readWeights 1 = .ok (.istore_n 1, 1) := by decide +kernel
theorem dX6_readWeights_2 : decode cX6_readWeights 2 = .ok (.iload_n 1, 1) := by decide +kernel
theorem dX6_readWeights_3 : decode cX6_readWeights 3 = .ok (.aload_n 0, 1) := by decide +kernel
theorem dX6_readWeights_4 : decode cX6_readWeights 4 = .ok (.getfield 21, 3) := by decide +kernel
theorem dX6_readWeights_7 : decode cX6_readWeights 7 = .ok (.iconst 1, 1) := by decide +kernel
theorem dX6_readWeights_8 : decode cX6_readWeights 8 = .ok (.invokevirtual 50, 3) := by decide +kernel
theorem dX6_readWeights_11 : decode cX6_readWeights 11 = .ok (.if_icmp .ge 23, 3) := by decide +kernel
theorem dX6_readWeights_14 : decode cX6_readWeights 14 = .ok (.aload_n 0, 1) := by decide +kernel
theorem dX6_readWeights_15 : decode cX6_readWeights 15 = .ok (.getfield 9, 3) := by decide +kernel
theorem dX6_readWeights_18 : decode cX6_readWeights 18 = .ok (.iload_n 1, 1) := by decide +kernel
theorem dX6_readWeights_19 : decode cX6_readWeights 19 = .ok (.aload_n 0, 1) := by decide +kernel
theorem dX6_readWeights_20 : decode cX6_readWeights 20 = .ok (.getfield 21, 3) := by decide +kernel
theorem dX6_readWeights_23 : decode cX6_readWeights 23 = .ok (.iload_n 1, 1) := by decide +kernel
theorem dX6_readWeights_24 : decode cX6_readWeights 24 = .ok (.invokevirtual 53, 3) := by decide +kernel
theorem dX6_readWeights_27 : decode cX6_readWeights 27 = .ok (.iastore, 1) := by decide +kernel
theorem dX6_readWeights_28 : decode cX6_readWeights 28 = .ok (.iinc 1 1, 3) := by decide +kernel
theorem dX6_readWeights_31 : decode cX6_readWeights 31 = .ok (.goto (-29), 3) := by decide +kernel
theorem dX6_readWeights_34 : decode cX6_readWeights 34 = .ok (.iconst 0, 1) := by decide +kernel
theorem dX6_readWeights_35 : decode cX6_readWeights 35 = .ok (.istore_n 1, 1) := by decide +kernel
theorem dX6_readWeights_36 : decode cX6_readWeights 36 = .ok (.iload_n 1, 1) := by decide +kernel
theorem dX6_readWeights_37 : decode cX6_readWeights 37 = .ok (.aload_n 0, 1) := by decide +kernel
theorem dX6_readWeights_38 : decode cX6_readWeights 38 = .ok (.getfield 21, 3) := by decide +kernel
theorem dX6_readWeights_41 : decode cX6_readWeights 41 = .ok (.iconst 4, 1) := by decide +kernel
theorem dX6_readWeights_42 : decode cX6_readWeights 42 = .ok (.invokevirtual 50, 3) := by decide +kernel
theorem dX6_readWeights_45 : decode cX6_readWeights 45 = .ok (.if_icmp .ge 23, 3) := by decide +kernel
theorem dX6_readWeights_48 : decode cX6_readWeights 48 = .ok (.aload_n 0, 1) := by decide +kernel
theorem dX6_readWeights_49 : decode cX6_readWeights 49 = .ok (.getfield 15, 3) := by decide +kernel
theorem dX6_readWeights_52 : decode cX6_readWeights 52 = .ok (.iload_n 1, 1) := by decide +kernel
theorem dX6_readWeights_53 : decode cX6_readWeights 53 = .ok (.aload_n 0, 1) := by decide +kernel
theorem dX6_readWeights_54 : decode cX6_readWeights 54 = .ok (.getfield 21, 3) := by decide +kernel
theorem dX6_readWeights_57 : decode cX6_readWeights 57 = .ok (.iload_n 1, 1) := by decide +kernel
theorem dX6_readWeights_58 : decode cX6_readWeights 58 = .ok (.invokevirtual 56, 3) := by decide +kernel
theorem dX6_readWeights_61 : decode cX6_readWeights 61 = .ok (.iastore, 1) := by decide +kernel
theorem dX6_readWeights_62 : decode cX6_readWeights 62 = .ok (.iinc 1 1, 3) := by decide +kernel
theorem dX6_readWeights_65 : decode cX6_readWeights 65 = .ok (.goto (-29), 3) := by decide +kernel
theorem dX6_readWeights_68 : decode cX6_readWeights 68 = .ok (.return_, 1) := by decide +kernel
theorem dX6_openNeeds_0 : decode cX6_openNeeds 0 = .ok (.iconst 0, 1) := by decide +kernel
theorem dX6_openNeeds_1 : decode cX6_openNeeds 1 = .ok (.istore_n 1, 1) := by decide +kernel
theorem dX6_openNeeds_2 : decode cX6_openNeeds 2 = .ok (.iconst 0, 1) := by decide +kernel
theorem dX6_openNeeds_3 : decode cX6_openNeeds 3 = .ok (.istore_n 2, 1) := by decide +kernel
theorem dX6_openNeeds_4 : decode cX6_openNeeds 4 = .ok (.iload_n 2, 1) := by decide +kernel
theorem dX6_openNeeds_5 : decode cX6_openNeeds 5 = .ok (.aload_n 0, 1) := by decide +kernel
theorem dX6_openNeeds_6 : decode cX6_openNeeds 6 = .ok (.getfield 21, 3) := by decide +kernel
theorem dX6_openNeeds_9 : decode cX6_openNeeds 9 = .ok (.iconst 4, 1) := by decide +kernel
theorem dX6_openNeeds_10 : decode cX6_openNeeds 10 = .ok (.invokevirtual 50, 3) := by decide +kernel
theorem dX6_openNeeds_13 : decode cX6_openNeeds 13 = .ok (.if_icmp .ge 27, 3) := by decide +kernel
theorem dX6_openNeeds_16 : decode cX6_openNeeds 16 = .ok (.aload_n 0, 1) := by decide +kernel
theorem dX6_openNeeds_17 : decode cX6_openNeeds 17 = .ok (.getfield 21, 3) := by decide +kernel
theorem dX6_openNeeds_20 : decode cX6_openNeeds 20 = .ok (.iload_n 2, 1) := by decide +kernel
theorem dX6_openNeeds_21 : decode cX6_openNeeds 21 = .ok (.invokevirtual 59, 3) := by decide +kernel
theorem dX6_openNeeds_24 : decode cX6_openNeeds 24 = .ok (.iconst (-1), 1) := by decide +kernel
theorem dX6_openNeeds_25 : decode cX6_openNeeds 25 = .ok (.if_icmp .ne 9, 3) := by decide +kernel
theorem dX6_openNeeds_28 : decode cX6_openNeeds 28 = .ok (.iload_n 1, 1) := by decide +kernel
theorem dX6_openNeeds_29 : decode cX6_openNeeds 29 = .ok (.iconst 1, 1) := by decide +kernel
theorem dX6_openNeeds_30 : decode cX6_openNeeds 30 = .ok (.iload_n 2, 1) := by decide +kernel
theorem dX6_openNeeds_31 : decode cX6_openNeeds 31 = .ok (.ishl, 1) := by decide +kernel
theorem dX6_openNeeds_32 : decode cX6_openNeeds 32 = .ok (.ior, 1) := by decide +kernel
theorem dX6_openNeeds_33 : decode cX6_openNeeds 33 = .ok (.istore_n 1, 1) := by decide +kernel
theorem dX6_openNeeds_34 : decode cX6_openNeeds 34 = .ok (.iinc 2 1, 3) := by decide +kernel
theorem dX6_openNeeds_37 : decode cX6_openNeeds 37 = .ok (.goto (-33), 3) := by decide +kernel
theorem dX6_openNeeds_40 : decode cX6_openNeeds 40 = .ok (.iload_n 1, 1) := by decide +kernel
theorem dX6_openNeeds_41 : decode cX6_openNeeds 41 = .ok (.ireturn, 1) := by decide +kernel
theorem dX6_firstChoice_0 : decode cX6_firstChoice 0 = .ok (.iconst 0, 1) := by decide +kernel
theorem dX6_firstChoice_1 : decode cX6_firstChoice 1 = .ok (.istore 5, 2) := by decide +kernel
theorem dX6_firstChoice_3 : decode cX6_firstChoice 3 = .ok (.iload 5, 2) := by decide +kernel
theorem dX6_firstChoice_5 : decode cX6_firstChoice 5 = .ok (.aload_n 0, 1) := by decide +kernel
theorem dX6_firstChoice_6 : decode cX6_firstChoice 6 = .ok (.getfield 21, 3) := by decide +kernel
theorem dX6_firstChoice_9 : decode cX6_firstChoice 9 = .ok (.iconst 1, 1) := by decide +kernel
theorem dX6_firstChoice_10 : decode cX6_firstChoice 10 = .ok (.invokevirtual 50, 3) := by decide +kernel
theorem dX6_firstChoice_13 : decode cX6_firstChoice 13 = .ok (.if_icmp .ge 67, 3) := by decide +kernel
theorem dX6_firstChoice_16 : decode cX6_firstChoice 16 = .ok (.iload_n 2, 1) := by decide +kernel
theorem dX6_firstChoice_17 : decode cX6_firstChoice 17 = .ok (.iload 5, 2) := by decide +kernel
theorem dX6_firstChoice_19 : decode cX6_firstChoice 19 = .ok (.invokestatic 42, 3) := by decide +kernel
theorem dX6_firstChoice_22 : decode cX6_firstChoice 22 = .ok (.ifCond .eq 52, 3) := by decide +kernel
theorem dX6_firstChoice_25 : decode cX6_firstChoice 25 = .ok (.aload_n 0, 1) := by decide +kernel
theorem dX6_firstChoice_26 : decode cX6_firstChoice 26 = .ok (.getfield 9, 3) := by decide +kernel
theorem dX6_firstChoice_29 : decode cX6_firstChoice 29 = .ok (.iload 5, 2) := by decide +kernel
theorem dX6_firstChoice_31 : decode cX6_firstChoice 31 = .ok (.iaload, 1) := by decide +kernel
theorem dX6_firstChoice_32 : decode cX6_firstChoice 32 = .ok (.aload_n 0, 1) := by decide +kernel
theorem dX6_firstChoice_33 : decode cX6_firstChoice 33 = .ok (.getfield 15, 3) := by decide +kernel
theorem dX6_firstChoice_36 : decode cX6_firstChoice 36 = .ok (.iload_n 1, 1) := by decide +kernel
theorem dX6_firstChoice_37 : decode cX6_firstChoice 37 = .ok (.iaload, 1) := by decide +kernel
theorem dX6_firstChoice_38 : decode cX6_firstChoice 38 = .ok (.if_icmp .lt 36, 3) := by decide +kernel
theorem dX6_firstChoice_41 : decode cX6_firstChoice 41 = .ok (.sipush 1000, 3) := by decide +kernel
theorem dX6_firstChoice_44 : decode cX6_firstChoice 44 = .ok (.aload_n 0, 1) := by decide +kernel
theorem dX6_firstChoice_45 : decode cX6_firstChoice 45 = .ok (.getfield 9, 3) := by decide +kernel
theorem dX6_firstChoice_48 : decode cX6_firstChoice 48 = .ok (.iload 5, 2) := by decide +kernel
theorem dX6_firstChoice_50 : decode cX6_firstChoice 50 = .ok (.iaload, 1) := by decide +kernel
theorem dX6_firstChoice_51 : decode cX6_firstChoice 51 = .ok (.isub, 1) := by decide +kernel
theorem dX6_firstChoice_52 : decode cX6_firstChoice 52 = .ok (.aload_n 0, 1) := by decide +kernel
theorem dX6_firstChoice_53 : decode cX6_firstChoice 53 = .ok (.iload_n 2, 1) := by decide +kernel
theorem dX6_firstChoice_54 : decode cX6_firstChoice 54 = .ok (.iconst 1, 1) := by decide +kernel
theorem dX6_firstChoice_55 : decode cX6_firstChoice 55 = .ok (.iload 5, 2) := by decide +kernel
theorem dX6_firstChoice_57 : decode cX6_firstChoice 57 = .ok (.ishl, 1) := by decide +kernel
theorem dX6_firstChoice_58 : decode cX6_firstChoice 58 = .ok (.iconst (-1), 1) := by decide +kernel
theorem dX6_firstChoice_59 : decode cX6_firstChoice 59 = .ok (.ixor, 1) := by decide +kernel
theorem dX6_firstChoice_60 : decode cX6_firstChoice 60 = .ok (.iand, 1) := by decide +kernel
theorem dX6_firstChoice_61 : decode cX6_firstChoice 61 = .ok (.iload_n 3, 1) := by decide +kernel
theorem dX6_firstChoice_62 : decode cX6_firstChoice 62 = .ok (.invokevirtual 38, 3) := by decide +kernel
theorem dX6_firstChoice_65 : decode cX6_firstChoice 65 = .ok (.iadd, 1) := by decide +kernel
theorem dX6_firstChoice_66 : decode cX6_firstChoice 66 = .ok (.iload 4, 2) := by decide +kernel
theorem dX6_firstChoice_68 : decode cX6_firstChoice 68 = .ok (.if_icmp .ne 6, 3) := by decide +kernel
theorem dX6_firstChoice_71 : decode cX6_firstChoice 71 = .ok (.iload 5, 2) := by decide +kernel
theorem dX6_firstChoice_73 : decode cX6_firstChoice 73 = .ok (.ireturn, 1) := by decide +kernel
theorem dX6_firstChoice_74 : decode cX6_firstChoice 74 = .ok (.iinc 5 1, 3) := by decide +kernel
theorem dX6_firstChoice_77 : decode cX6_firstChoice 77 = .ok (.goto (-74), 3) := by decide +kernel
theorem dX6_firstChoice_80 : decode cX6_firstChoice 80 = .ok (.iconst (-1), 1) := by decide +kernel
theorem dX6_firstChoice_81 : decode cX6_firstChoice 81 = .ok (.ireturn, 1) := by decide +kernel
theorem dX6_bestWorth_0 : decode cX6_bestWorth 0 = .ok (.iconst 0, 1) := by decide +kernel
theorem dX6_bestWorth_1 : decode cX6_bestWorth 1 = .ok (.istore_n 3, 1) := by decide +kernel
theorem dX6_bestWorth_2 : decode cX6_bestWorth 2 = .ok (.iload_n 1, 1) := by decide +kernel
theorem dX6_bestWorth_3 : decode cX6_bestWorth 3 = .ok (.istore 4, 2) := by decide +kernel
theorem dX6_bestWorth_5 : decode cX6_bestWorth 5 = .ok (.iload_n 2, 1) := by decide +kernel
theorem dX6_bestWorth_6 : decode cX6_bestWorth 6 = .ok (.istore 5, 2) := by decide +kernel
theorem dX6_bestWorth_8 : decode cX6_bestWorth 8 = .ok (.iconst 0, 1) := by decide +kernel
theorem dX6_bestWorth_9 : decode cX6_bestWorth 9 = .ok (.istore 6, 2) := by decide +kernel
theorem dX6_bestWorth_11 : decode cX6_bestWorth 11 = .ok (.iload 6, 2) := by decide +kernel
theorem dX6_bestWorth_13 : decode cX6_bestWorth 13 = .ok (.iconst 5, 1) := by decide +kernel
theorem dX6_bestWorth_14 : decode cX6_bestWorth 14 = .ok (.if_icmp .ge 76, 3) := by decide +kernel
theorem dX6_bestWorth_17 : decode cX6_bestWorth 17 = .ok (.iload 5, 2) := by decide +kernel
theorem dX6_bestWorth_19 : decode cX6_bestWorth 19 = .ok (.ifCond .eq 71, 3) := by decide +kernel
theorem dX6_bestWorth_22 : decode cX6_bestWorth 22 = .ok (.aload_n 0, 1) := by decide +kernel
theorem dX6_bestWorth_23 : decode cX6_bestWorth 23 = .ok (.iload 5, 2) := by decide +kernel
theorem dX6_bestWorth_25 : decode cX6_bestWorth 25 = .ok (.invokevirtual 62, 3) := by decide +kernel
theorem dX6_bestWorth_28 : decode cX6_bestWorth 28 = .ok (.istore 7, 2) := by decide +kernel
theorem dX6_bestWorth_30 : decode cX6_bestWorth 30 = .ok (.aload_n 0, 1) := by decide +kernel
theorem dX6_bestWorth_31 : decode cX6_bestWorth 31 = .ok (.iload 7, 2) := by decide +kernel
theorem dX6_bestWorth_33 : decode cX6_bestWorth 33 = .ok (.iload 4, 2) := by decide +kernel
theorem dX6_bestWorth_35 : decode cX6_bestWorth 35 = .ok (.invokevirtual 65, 3) := by decide +kernel
theorem dX6_bestWorth_38 : decode cX6_bestWorth 38 = .ok (.istore 8, 2) := by decide +kernel
theorem dX6_bestWorth_40 : decode cX6_bestWorth 40 = .ok (.iload 8, 2) := by decide +kernel
theorem dX6_bestWorth_42 : decode cX6_bestWorth 42 = .ok (.iconst (-1), 1) := by decide +kernel
theorem dX6_bestWorth_43 : decode cX6_bestWorth 43 = .ok (.if_icmp .ne 5, 3) := by decide +kernel
theorem dX6_bestWorth_46 : decode cX6_bestWorth 46 = .ok (.iload_n 3, 1) := by decide +kernel
theorem dX6_bestWorth_47 : decode cX6_bestWorth 47 = .ok (.ireturn, 1) := by decide +kernel
theorem dX6_bestWorth_48 : decode cX6_bestWorth 48 = .ok (.iload 5, 2) := by decide +kernel
theorem dX6_bestWorth_50 : decode cX6_bestWorth 50 = .ok (.iconst 1, 1) := by decide +kernel
theorem dX6_bestWorth_51 : decode cX6_bestWorth 51 = .ok (.iload 7, 2) := by decide +kernel
theorem dX6_bestWorth_53 : decode cX6_bestWorth 53 = .ok (.ishl, 1) := by decide +kernel
theorem dX6_bestWorth_54 : decode cX6_bestWorth 54 = .ok (.iconst (-1), 1) := by decide +kernel
theorem dX6_bestWorth_55 : decode cX6_bestWorth 55 = .ok (.ixor, 1) := by decide +kernel
theorem dX6_bestWorth_56 : decode cX6_bestWorth 56 = .ok (.iand, 1) := by decide +kernel
theorem dX6_bestWorth_57 : decode cX6_bestWorth 57 = .ok (.istore 5, 2) := by decide +kernel
theorem dX6_bestWorth_59 : decode cX6_bestWorth 59 = .ok (.iload 4, 2) := by decide +kernel
theorem dX6_bestWorth_61 : decode cX6_bestWorth 61 = .ok (.iconst 1, 1) := by decide +kernel
theorem dX6_bestWorth_62 : decode cX6_bestWorth 62 = .ok (.iload 8, 2) := by decide +kernel
theorem dX6_bestWorth_64 : decode cX6_bestWorth 64 = .ok (.ishl, 1) := by decide +kernel
theorem dX6_bestWorth_65 : decode cX6_bestWorth 65 = .ok (.iconst (-1), 1) := by decide +kernel
theorem dX6_bestWorth_66 : decode cX6_bestWorth 66 = .ok (.ixor, 1) := by decide +kernel
theorem dX6_bestWorth_67 : decode cX6_bestWorth 67 = .ok (.iand, 1) := by decide +kernel
theorem dX6_bestWorth_68 : decode cX6_bestWorth 68 = .ok (.istore 4, 2) := by decide +kernel
theorem dX6_bestWorth_70 : decode cX6_bestWorth 70 = .ok (.iload_n 3, 1) := by decide +kernel
theorem dX6_bestWorth_71 : decode cX6_bestWorth 71 = .ok (.sipush 1000, 3) := by decide +kernel
theorem dX6_bestWorth_74 : decode cX6_bestWorth 74 = .ok (.aload_n 0, 1) := by decide +kernel
theorem dX6_bestWorth_75 : decode cX6_bestWorth 75 = .ok (.getfield 9, 3) := by decide +kernel
theorem dX6_bestWorth_78 : decode cX6_bestWorth 78 = .ok (.iload 8, 2) := by decide +kernel
theorem dX6_bestWorth_80 : decode cX6_bestWorth 80 = .ok (.iaload, 1) := by decide +kernel
theorem dX6_bestWorth_81 : decode cX6_bestWorth 81 = .ok (.isub, 1) := by decide +kernel
theorem dX6_bestWorth_82 : decode cX6_bestWorth 82 = .ok (.iadd, 1) := by decide +kernel
theorem dX6_bestWorth_83 : decode cX6_bestWorth 83 = .ok (.istore_n 3, 1) := by decide +kernel
theorem dX6_bestWorth_84 : decode cX6_bestWorth 84 = .ok (.iinc 6 1, 3) := by decide +kernel
theorem dX6_bestWorth_87 : decode cX6_bestWorth 87 = .ok (.goto (-76), 3) := by decide +kernel
theorem dX6_bestWorth_90 : decode cX6_bestWorth 90 = .ok (.iload_n 3, 1) := by decide +kernel
theorem dX6_bestWorth_91 : decode cX6_bestWorth 91 = .ok (.ireturn, 1) := by decide +kernel
theorem dX6_leastNeed_0 : decode cX6_leastNeed 0 = .ok (.iload_n 1, 1) := by decide +kernel
theorem dX6_leastNeed_1 : decode cX6_leastNeed 1 = .ok (.invokestatic 68, 3) := by decide +kernel
theorem dX6_leastNeed_4 : decode cX6_leastNeed 4 = .ok (.istore_n 2, 1) := by decide +kernel
theorem dX6_leastNeed_5 : decode cX6_leastNeed 5 = .ok (.iload_n 2, 1) := by decide +kernel
theorem dX6_leastNeed_6 : decode cX6_leastNeed 6 = .ok (.iconst 1, 1) := by decide +kernel
theorem dX6_leastNeed_7 : decode cX6_leastNeed 7 = .ok (.iadd, 1) := by decide +kernel
theorem dX6_leastNeed_8 : decode cX6_leastNeed 8 = .ok (.istore_n 3, 1) := by decide +kernel
theorem dX6_leastNeed_9 : decode cX6_leastNeed 9 = .ok (.iload_n 3, 1) := by decide +kernel
theorem dX6_leastNeed_10 : decode cX6_leastNeed 10 = .ok (.iconst 5, 1) := by decide +kernel
theorem dX6_leastNeed_11 : decode cX6_leastNeed 11 = .ok (.if_icmp .ge 34, 3) := by decide +kernel
theorem dX6_leastNeed_14 : decode cX6_leastNeed 14 = .ok (.iload_n 1, 1) := by decide +kernel
theorem dX6_leastNeed_15 : decode cX6_leastNeed 15 = .ok (.iload_n 3, 1) := by decide +kernel
theorem dX6_leastNeed_16 : decode cX6_leastNeed 16 = .ok (.invokestatic 42, 3) := by decide +kernel
theorem dX6_leastNeed_19 : decode cX6_leastNeed 19 = .ok (.ifCond .eq 20, 3) := by decide +kernel
theorem dX6_leastNeed_22 : decode cX6_leastNeed 22 = .ok (.aload_n 0, 1) := by decide +kernel
theorem dX6_leastNeed_23 : decode cX6_leastNeed 23 = .ok (.getfield 15, 3) := by decide +kernel
theorem dX6_leastNeed_26 : decode cX6_leastNeed 26 = .ok (.iload_n 3, 1) := by decide +kernel
theorem dX6_leastNeed_27 : decode cX6_leastNeed 27 = .ok (.iaload, 1) := by decide +kernel
theorem dX6_leastNeed_28 : decode cX6_leastNeed 28 = .ok (.aload_n 0, 1) := by decide +kernel
theorem dX6_leastNeed_29 : decode cX6_leastNeed 29 = .ok (.getfield 15, 3) := by decide +kernel
theorem dX6_leastNeed_32 : decode cX6_leastNeed 32 = .ok (.iload_n 2, 1) := by decide +kernel
theorem dX6_leastNeed_33 : decode cX6_leastNeed 33 = .ok (.iaload, 1) := by decide +kernel
theorem dX6_leastNeed_34 : decode cX6_leastNeed 34 = .ok (.if_icmp .ge 5, 3) := by decide +kernel
theorem dX6_leastNeed_37 : decode cX6_leastNeed 37 = .ok (.iload_n 3, 1) := by decide +kernel
theorem dX6_leastNeed_38 : decode cX6_leastNeed 38 = .ok (.istore_n 2, 1) := by decide +kernel
theorem dX6_leastNeed_39 : decode cX6_leastNeed 39 = .ok (.iinc 3 1, 3) := by decide +kernel
theorem dX6_leastNeed_42 : decode cX6_leastNeed 42 = .ok (.goto (-33), 3) := by decide +kernel
theorem dX6_leastNeed_45 : decode cX6_leastNeed 45 = .ok (.iload_n 2, 1) := by decide +kernel
theorem dX6_leastNeed_46 : decode cX6_leastNeed 46 = .ok (.ireturn, 1) := by decide +kernel
theorem dX6_weakestFor_0 : decode cX6_weakestFor 0 = .ok (.iconst (-1), 1) := by decide +kernel
theorem dX6_weakestFor_1 : decode cX6_weakestFor 1 = .ok (.istore_n 3, 1) := by decide +kernel
theorem dX6_weakestFor_2 : decode cX6_weakestFor 2 = .ok (.iconst 0, 1) := by decide +kernel
theorem dX6_weakestFor_3 : decode cX6_weakestFor 3 = .ok (.istore 4, 2) := by decide +kernel
theorem dX6_weakestFor_5 : decode cX6_weakestFor 5 = .ok (.iload 4, 2) := by decide +kernel
theorem dX6_weakestFor_7 : decode cX6_weakestFor 7 = .ok (.aload_n 0, 1) := by decide +kernel
theorem dX6_weakestFor_8 : decode cX6_weakestFor 8 = .ok (.getfield 21, 3) := by decide +kernel
theorem dX6_weakestFor_11 : decode cX6_weakestFor 11 = .ok (.iconst 1, 1) := by decide +kernel
theorem dX6_weakestFor_12 : decode cX6_weakestFor 12 = .ok (.invokevirtual 50, 3) := by decide +kernel
theorem dX6_weakestFor_15 : decode cX6_weakestFor 15 = .ok (.if_icmp .ge 58, 3) := by decide +kernel
theorem dX6_weakestFor_18 : decode cX6_weakestFor 18 = .ok (.iload_n 2, 1) := by decide +kernel
theorem dX6_weakestFor_19 : decode cX6_weakestFor 19 = .ok (.iload 4, 2) := by decide +kernel
theorem dX6_weakestFor_21 : decode cX6_weakestFor 21 = .ok (.invokestatic 42, 3) := by decide +kernel
theorem dX6_weakestFor_24 : decode cX6_weakestFor 24 = .ok (.ifCond .eq 43, 3) := by decide +kernel
theorem dX6_weakestFor_27 : decode cX6_weakestFor 27 = .ok (.aload_n 0, 1) := by decide +kernel
theorem dX6_weakestFor_28 : decode cX6_weakestFor 28 = .ok (.getfield 9, 3) := by decide +kernel
theorem dX6_weakestFor_31 : decode cX6_weakestFor 31 = .ok (.iload 4, 2) := by decide +kernel
theorem dX6_weakestFor_33 : decode cX6_weakestFor 33 = .ok (.iaload, 1) := by decide +kernel
theorem dX6_weakestFor_34 : decode cX6_weakestFor 34 = .ok (.aload_n 0, 1) := by decide +kernel
theorem dX6_weakestFor_35 : decode cX6_weakestFor 35 = .ok (.getfield 15, 3) := by decide +kernel
theorem dX6_weakestFor_38 : decode cX6_weakestFor 38 = .ok (.iload_n 1, 1) := by decide +kernel
theorem dX6_weakestFor_39 : decode cX6_weakestFor 39 = .ok (.iaload, 1) := by decide +kernel
theorem dX6_weakestFor_40 : decode cX6_weakestFor 40 = .ok (.if_icmp .lt 27, 3) := by decide +kernel
theorem dX6_weakestFor_43 : decode cX6_weakestFor 43 = .ok (.iload_n 3, 1) := by decide +kernel
theorem dX6_weakestFor_44 : decode cX6_weakestFor 44 = .ok (.iconst (-1), 1) := by decide +kernel
theorem dX6_weakestFor_45 : decode cX6_weakestFor 45 = .ok (.if_icmp .eq 19, 3) := by decide +kernel
theorem dX6_weakestFor_48 : decode cX6_weakestFor 48 = .ok (.aload_n 0, 1) := by decide +kernel
theorem dX6_weakestFor_49 : decode cX6_weakestFor 49 = .ok (.getfield 9, 3) := by decide +kernel
theorem dX6_weakestFor_52 : decode cX6_weakestFor 52 = .ok (.iload 4, 2) := by decide +kernel
theorem dX6_weakestFor_54 : decode cX6_weakestFor 54 = .ok (.iaload, 1) := by decide +kernel
theorem dX6_weakestFor_55 : decode cX6_weakestFor 55 = .ok (.aload_n 0, 1) := by decide +kernel
theorem dX6_weakestFor_56 : decode cX6_weakestFor 56 = .ok (.getfield 9, 3) := by decide +kernel
theorem dX6_weakestFor_59 : decode cX6_weakestFor 59 = .ok (.iload_n 3, 1) := by decide +kernel
theorem dX6_weakestFor_60 : decode cX6_weakestFor 60 = .ok (.iaload, 1) := by decide +kernel
theorem dX6_weakestFor_61 : decode cX6_weakestFor 61 = .ok (.if_icmp .ge 6, 3) := by decide +kernel
theorem dX6_weakestFor_64 : decode cX6_weakestFor 64 = .ok (.iload 4, 2) := by decide +kernel
theorem dX6_weakestFor_66 : decode cX6_weakestFor 66 = .ok (.istore_n 3, 1) := by decide +kernel
theorem dX6_weakestFor_67 : decode cX6_weakestFor 67 = .ok (.iinc 4 1, 3) := by decide +kernel
theorem dX6_weakestFor_70 : decode cX6_weakestFor 70 = .ok (.goto (-65), 3) := by decide +kernel
theorem dX6_weakestFor_73 : decode cX6_weakestFor 73 = .ok (.iload_n 3, 1) := by decide +kernel
theorem dX6_weakestFor_74 : decode cX6_weakestFor 74 = .ok (.ireturn, 1) := by decide +kernel
theorem dX7_init_0 : decode cX7_init 0 = .ok (.aload_n 0, 1) := by decide +kernel
theorem dX7_init_1 : decode cX7_init 1 = .ok (.invokespecial 3, 3) := by decide +kernel
theorem dX7_init_4 : decode cX7_init 4 = .ok (.aload_n 0, 1) := by decide +kernel
theorem dX7_init_5 : decode cX7_init 5 = .ok (.bipush 16, 2) := by decide +kernel
theorem dX7_init_7 : decode cX7_init 7 = .ok (.anewarray 9, 3) := by decide +kernel
theorem dX7_init_10 : decode cX7_init 10 = .ok (.putfield 11, 3) := by decide +kernel
theorem dX7_init_13 : decode cX7_init 13 = .ok (.iconst 0, 1) := by decide +kernel
theorem dX7_init_14 : decode cX7_init 14 = .ok (.istore_n 1, 1) := by decide +kernel
theorem dX7_init_15 : decode cX7_init 15 = .ok (.iload_n 1, 1) := by decide +kernel
theorem dX7_init_16 : decode cX7_init 16 = .ok (.bipush 16, 2) := by decide +kernel
theorem dX7_init_18 : decode cX7_init 18 = .ok (.if_icmp .ge 22, 3) := by decide +kernel
theorem dX7_init_21 : decode cX7_init 21 = .ok (.aload_n 0, 1) := by decide +kernel
theorem dX7_init_22 : decode cX7_init 22 = .ok (.getfield 11, 3) := by decide +kernel
theorem dX7_init_25 : decode cX7_init 25 = .ok (.iload_n 1, 1) := by decide +kernel
theorem dX7_init_26 : decode cX7_init 26 = .ok (.new 9, 3) := by decide +kernel
theorem dX7_init_29 : decode cX7_init 29 = .ok (.dup, 1) := by decide +kernel
theorem dX7_init_30 : decode cX7_init 30 = .ok (.invokespecial 17, 3) := by decide +kernel
theorem dX7_init_33 : decode cX7_init 33 = .ok (.aastore, 1) := by decide +kernel
theorem dX7_init_34 : decode cX7_init 34 = .ok (.iinc 1 1, 3) := by decide +kernel
theorem dX7_init_37 : decode cX7_init 37 = .ok (.goto (-22), 3) := by decide +kernel
theorem dX7_init_40 : decode cX7_init 40 = .ok (.return_, 1) := by decide +kernel
theorem dX7_clear_0 : decode cX7_clear 0 = .ok (.aload_n 0, 1) := by decide +kernel
theorem dX7_clear_1 : decode cX7_clear 1 = .ok (.iconst 0, 1) := by decide +kernel
theorem dX7_clear_2 : decode cX7_clear 2 = .ok (.putfield 18, 3) := by decide +kernel
theorem dX7_clear_5 : decode cX7_clear 5 = .ok (.return_, 1) := by decide +kernel
theorem dX7_remember_0 : decode cX7_remember 0 = .ok (.aload_n 0, 1) := by decide +kernel
theorem dX7_remember_1 : decode cX7_remember 1 = .ok (.getfield 11, 3) := by decide +kernel
theorem dX7_remember_4 : decode cX7_remember 4 = .ok (.aload_n 0, 1) := by decide +kernel
theorem dX7_remember_5 : decode cX7_remember 5 = .ok (.getfield 22, 3) := by decide +kernel
theorem dX7_remember_8 : decode cX7_remember 8 = .ok (.aaload, 1) := by decide +kernel
theorem dX7_remember_9 : decode cX7_remember 9 = .ok (.aload_n 1, 1) := by decide +kernel
theorem dX7_remember_10 : decode cX7_remember 10 = .ok (.invokevirtual 25, 3) := by decide +kernel
theorem dX7_remember_13 : decode cX7_remember 13 = .ok (.aload_n 0, 1) := by decide +kernel
theorem dX7_remember_14 : decode cX7_remember 14 = .ok (.aload_n 0, 1) := by decide +kernel
theorem dX7_remember_15 : decode cX7_remember 15 = .ok (.getfield 22, 3) := by decide +kernel
theorem dX7_remember_18 : decode cX7_remember 18 = .ok (.iconst 1, 1) := by decide +kernel
theorem dX7_remember_19 : decode cX7_remember 19 = .ok (.iadd, 1) := by decide +kernel
theorem dX7_remember_20 : decode cX7_remember 20 = .ok (.bipush 16, 2) := by decide +kernel
theorem dX7_remember_22 : decode cX7_remember 22 = .ok (.irem, 1) := by decide +kernel
theorem dX7_remember_23 : decode cX7_remember 23 = .ok (.putfield 22, 3) := by decide +kernel
theorem dX7_remember_26 : decode cX7_remember 26 = .ok (.aload_n 0, 1) := by decide +kernel
theorem dX7_remember_27 : decode cX7_remember 27 = .ok (.aload_n 0, 1) := by decide +kernel
theorem dX7_remember_28 : decode cX7_remember 28 = .ok (.getfield 18, 3) := by decide +kernel
theorem dX7_remember_31 : decode cX7_remember 31 = .ok (.iconst 1, 1) := by decide +kernel
theorem dX7_remember_32 : decode cX7_remember 32 = .ok (.iadd, 1) := by decide +kernel
theorem dX7_remember_33 : decode cX7_remember 33 = .ok (.bipush 16, 2) := by decide +kernel
theorem dX7_remember_35 : decode cX7_remember 35 = .ok (.invokestatic 29, 3) := by decide +kernel
theorem dX7_remember_38 : decode cX7_remember 38 = .ok (.putfield 18, 3) := by decide +kernel
theorem dX7_remember_41 : decode cX7_remember 41 = .ok (.return_, 1) := by decide +kernel
theorem dX7_restore_0 : decode cX7_restore 0 = .ok (.aload_n 0, 1) := by decide +kernel
theorem dX7_restore_1 : decode cX7_restore 1 = .ok (.aload_n 0, 1) := by decide +kernel
theorem dX7_restore_2 : decode cX7_restore 2 = .ok (.getfield 22, 3) := by decide +kernel
theorem dX7_restore_5 : decode cX7_restore 5 = .ok (.bipush 16, 2) := by decide +kernel
theorem dX7_restore_7 : decode cX7_restore 7 = .ok (.iadd, 1) := by decide +kernel
theorem dX7_restore_8 : decode cX7_restore 8 = .ok (.iconst 1, 1) := by decide +kernel
theorem dX7_restore_9 : decode cX7_restore 9 = .ok (.isub, 1) := by decide +kernel
theorem dX7_restore_10 : decode cX7_restore 10 = .ok (.bipush 16, 2) := by decide +kernel
theorem dX7_restore_12 : decode cX7_restore 12 = .ok (.irem, 1) := by decide +kernel
theorem dX7_restore_13 : decode cX7_restore 13 = .ok (.putfield 22, 3) := by decide +kernel
theorem dX7_restore_16 : decode cX7_restore 16 = .ok (.aload_n 0, 1) := by decide +kernel
theorem dX7_restore_17 : decode cX7_restore 17 = .ok (.dup, 1) := by decide +kernel
theorem dX7_restore_18 : decode cX7_restore 18 = .ok (.getfield 18, 3) := by decide +kernel
theorem dX7_restore_21 : decode cX7_restore 21 = .ok (.iconst 1, 1) := by decide +kernel
theorem dX7_restore_22 : decode cX7_restore 22 = .ok (.isub, 1) := by decide +kernel
theorem dX7_restore_23 : decode cX7_restore 23 = .ok (.putfield 18, 3) := by decide +kernel
theorem dX7_restore_26 : decode cX7_restore 26 = .ok (.aload_n 1, 1) := by decide +kernel
theorem dX7_restore_27 : decode cX7_restore 27 = .ok (.aload_n 0, 1) := by decide +kernel
theorem dX7_restore_28 : decode cX7_restore 28 = .ok (.getfield 11, 3) := by decide +kernel
theorem dX7_restore_31 : decode cX7_restore 31 = .ok (.aload_n 0, 1) := by decide +kernel
theorem dX7_restore_32 : decode cX7_restore 32 = .ok (.getfield 22, 3) := by decide +kernel
theorem dX7_restore_35 : decode cX7_restore 35 = .ok (.aaload, 1) := by decide +kernel
theorem dX7_restore_36 : decode cX7_restore 36 = .ok (.invokevirtual 25, 3) := by decide +kernel
theorem dX7_restore_39 : decode cX7_restore 39 = .ok (.return_, 1) := by decide +kernel
theorem dX8_init_0 : decode cX8_init 0 = .ok (.aload_n 0, 1) := by decide +kernel
theorem dX8_init_1 : decode cX8_init 1 = .ok (.invokespecial 3, 3) := by decide +kernel
theorem dX8_init_4 : decode cX8_init 4 = .ok (.aload_n 0, 1) := by decide +kernel
theorem dX8_init_5 : decode cX8_init 5 = .ok (.sipush 240, 3) := by decide +kernel
theorem dX8_init_8 : decode cX8_init 8 = .ok (.newarray .int, 2) := by decide +kernel
theorem dX8_init_10 : decode cX8_init 10 = .ok (.putfield 9, 3) := by decide +kernel
theorem dX8_init_13 : decode cX8_init 13 = .ok (.return_, 1) := by decide +kernel
theorem dX8_add_0 : decode cX8_add 0 = .ok (.aload_n 0, 1) := by decide +kernel
theorem dX8_add_1 : decode cX8_add 1 = .ok (.getfield 9, 3) := by decide +kernel
theorem dX8_add_4 : decode cX8_add 4 = .ok (.aload_n 0, 1) := by decide +kernel
theorem dX8_add_5 : decode cX8_add 5 = .ok (.getfield 15, 3) := by decide +kernel
theorem dX8_add_8 : decode cX8_add 8 = .ok (.iload_n 1, 1) := by decide +kernel
theorem dX8_add_9 : decode cX8_add 9 = .ok (.iastore, 1) := by decide +kernel
theorem dX8_add_10 : decode cX8_add 10 = .ok (.aload_n 0, 1) := by decide +kernel
theorem dX8_add_11 : decode cX8_add 11 = .ok (.dup, 1) := by decide +kernel
theorem dX8_add_12 : decode cX8_add 12 = .ok (.getfield 15, 3) := by decide +kernel
theorem dX8_add_15 : decode cX8_add 15 = .ok (.iconst 1, 1) := by decide +kernel
theorem dX8_add_16 : decode cX8_add 16 = .ok (.iadd, 1) := by decide +kernel
theorem dX8_add_17 : decode cX8_add 17 = .ok (.putfield 15, 3) := by decide +kernel
theorem dX8_add_20 : decode cX8_add 20 = .ok (.return_, 1) := by decide +kernel
theorem dX8_clear_0 : decode cX8_clear 0 = .ok (.aload_n 0, 1) := by decide +kernel
theorem dX8_clear_1 : decode cX8_clear 1 = .ok (.iconst 0, 1) := by decide +kernel
theorem dX8_clear_2 : decode cX8_clear 2 = .ok (.putfield 15, 3) := by decide +kernel
theorem dX8_clear_5 : decode cX8_clear 5 = .ok (.return_, 1) := by decide +kernel
theorem dX8_readInto_0 : decode cX8_readInto 0 = .ok (.aload_n 1, 1) := by decide +kernel
theorem dX8_readInto_1 : decode cX8_readInto 1 = .ok (.invokevirtual 19, 3) := by decide +kernel
theorem dX8_readInto_4 : decode cX8_readInto 4 = .ok (.aload_n 0, 1) := by decide +kernel
theorem dX8_readInto_5 : decode cX8_readInto 5 = .ok (.iconst 0, 1) := by decide +kernel
theorem dX8_readInto_6 : decode cX8_readInto 6 = .ok (.putfield 24, 3) := by decide +kernel
theorem dX8_readInto_9 : decode cX8_readInto 9 = .ok (.iconst 0, 1) := by decide +kernel
theorem dX8_readInto_10 : decode cX8_readInto 10 = .ok (.istore_n 2, 1) := by decide +kernel
theorem dX8_readInto_11 : decode cX8_readInto 11 = .ok (.iconst 0, 1) := by decide +kernel
theorem dX8_readInto_12 : decode cX8_readInto 12 = .ok (.istore_n 3, 1) := by decide +kernel
theorem dX8_readInto_13 : decode cX8_readInto 13 = .ok (.iload_n 3, 1) := by decide +kernel
theorem dX8_readInto_14 : decode cX8_readInto 14 = .ok (.sipush 240, 3) := by decide +kernel
theorem dX8_readInto_17 : decode cX8_readInto 17 = .ok (.if_icmp .ge 26, 3) := by decide +kernel
theorem dX8_readInto_20 : decode cX8_readInto 20 = .ok (.iload_n 2, 1) := by decide +kernel
theorem dX8_readInto_21 : decode cX8_readInto 21 = .ok (.ifCond .ne 22, 3) := by decide +kernel
theorem dX8_readInto_24 : decode cX8_readInto 24 = .ok (.aload_n 0, 1) := by decide +kernel
theorem dX8_readInto_25 : decode cX8_readInto 25 = .ok (.invokevirtual 27, 3) := by decide +kernel
theorem dX8_readInto_28 : decode cX8_readInto 28 = .ok (.ifCond .ne 15, 3) := by decide +kernel
theorem dX8_readInto_31 : decode cX8_readInto 31 = .ok (.aload_n 0, 1) := by decide +kernel
theorem dX8_readInto_32 : decode cX8_readInto 32 = .ok (.aload_n 1, 1) := by decide +kernel
theorem dX8_readInto_33 : decode cX8_readInto 33 = .ok (.invokevirtual 31, 3) := by decide +kernel
theorem dX8_readInto_36 : decode cX8_readInto 36 = .ok (.istore_n 2, 1) := by decide +kernel
theorem dX8_readInto_37 : decode cX8_readInto 37 = .ok (.iinc 3 1, 3) := by decide +kernel
theorem dX8_readInto_40 : decode cX8_readInto 40 = .ok (.goto (-27), 3) := by decide +kernel
theorem dX8_readInto_43 : decode cX8_readInto 43 = .ok (.iload_n 2, 1) := by decide +kernel
theorem dX8_readInto_44 : decode cX8_readInto 44 = .ok (.ireturn, 1) := by decide +kernel
theorem dX8_isAtEnd_0 : decode cX8_isAtEnd 0 = .ok (.aload_n 0, 1) := by decide +kernel
theorem dX8_isAtEnd_1 : decode cX8_isAtEnd 1 = .ok (.getfield 24, 3) := by decide +kernel
theorem dX8_isAtEnd_4 : decode cX8_isAtEnd 4 = .ok (.aload_n 0, 1) := by decide +kernel
theorem dX8_isAtEnd_5 : decode cX8_isAtEnd 5 = .ok (.getfield 15, 3) := by decide +kernel
theorem dX8_isAtEnd_8 : decode cX8_isAtEnd 8 = .ok (.if_icmp .ge 30, 3) := by decide +kernel
theorem dX8_isAtEnd_11 : decode cX8_isAtEnd 11 = .ok (.aload_n 0, 1) := by decide +kernel
theorem dX8_isAtEnd_12 : decode cX8_isAtEnd 12 = .ok (.getfield 9, 3) := by decide +kernel
theorem dX8_isAtEnd_15 : decode cX8_isAtEnd 15 = .ok (.aload_n 0, 1) := by decide +kernel
theorem dX8_isAtEnd_16 : decode cX8_isAtEnd 16 = .ok (.getfield 24, 3) := by decide +kernel
theorem dX8_isAtEnd_19 : decode cX8_isAtEnd 19 = .ok (.iaload, 1) := by decide +kernel
theorem dX8_isAtEnd_20 : decode cX8_isAtEnd 20 = .ok (.bipush 32, 2) := by decide +kernel
theorem dX8_isAtEnd_22 : decode cX8_isAtEnd 22 = .ok (.if_icmp .ne 16, 3) := by decide +kernel
theorem dX8_isAtEnd_25 : decode cX8_isAtEnd 25 = .ok (.aload_n 0, 1) := by decide +kernel
theorem dX8_isAtEnd_26 : decode cX8_isAtEnd 26 = .ok (.dup, 1) := by decide +kernel
theorem dX8_isAtEnd_27 : decode cX8_isAtEnd 27 = .ok (.getfield 24, 3) := by decide +kernel
theorem dX8_isAtEnd_30 : decode cX8_isAtEnd 30 = .ok (.iconst 1, 1) := by decide +kernel
theorem dX8_isAtEnd_31 : decode cX8_isAtEnd 31 = .ok (.iadd, 1) := by decide +kernel
theorem dX8_isAtEnd_32 : decode cX8_isAtEnd 32 = .ok (.putfield 24, 3) := by decide +kernel
theorem dX8_isAtEnd_35 : decode cX8_isAtEnd 35 = .ok (.goto (-35), 3) := by decide +kernel
theorem dX8_isAtEnd_38 : decode cX8_isAtEnd 38 = .ok (.aload_n 0, 1) := by decide +kernel
theorem dX8_isAtEnd_39 : decode cX8_isAtEnd 39 = .ok (.getfield 24, 3) := by decide +kernel
theorem dX8_isAtEnd_42 : decode cX8_isAtEnd 42 = .ok (.aload_n 0, 1) := by decide +kernel
theorem dX8_isAtEnd_43 : decode cX8_isAtEnd 43 = .ok (.getfield 15, 3) := by decide +kernel
theorem dX8_isAtEnd_46 : decode cX8_isAtEnd 46 = .ok (.if_icmp .lt 7, 3) := by decide +kernel
theorem dX8_isAtEnd_49 : decode cX8_isAtEnd 49 = .ok (.iconst 1, 1) := by decide +kernel
theorem dX8_isAtEnd_50 : decode cX8_isAtEnd 50 = .ok (.goto 4, 3) := by decide +kernel
theorem dX8_isAtEnd_53 : decode cX8_isAtEnd 53 = .ok (.iconst 0, 1) := by decide +kernel
theorem dX8_isAtEnd_54 : decode cX8_isAtEnd 54 = .ok (.ireturn, 1) := by decide +kernel
theorem dX8_readClause_0 : decode cX8_readClause 0 = .ok (.ldc 35, 2) := by decide +kernel
theorem dX8_readClause_2 : decode cX8_readClause 2 = .ok (.aload_n 0, 1) := by decide +kernel
theorem dX8_readClause_3 : decode cX8_readClause 3 = .ok (.getfield 9, 3) := by decide +kernel
theorem dX8_readClause_6 : decode cX8_readClause 6 = .ok (.aload_n 0, 1) := by decide +kernel
theorem dX8_readClause_7 : decode cX8_readClause 7 = .ok (.getfield 24, 3) := by decide +kernel
theorem dX8_readClause_10 : decode cX8_readClause 10 = .ok (.iaload, 1) := by decide +kernel
theorem dX8_readClause_11 : decode cX8_readClause 11 = .ok (.i2c, 1) := by decide +kernel
theorem dX8_readClause_12 : decode cX8_readClause 12 = .ok (.invokevirtual 37, 3) := by decide +kernel
theorem dX8_readClause_15 : decode cX8_readClause 15 = .ok (.istore_n 2, 1) := by decide +kernel
theorem dX8_readClause_16 : decode cX8_readClause 16 = .ok (.iload_n 2, 1) := by decide +kernel
theorem dX8_readClause_17 : decode cX8_readClause 17 = .ok (.ifCond .lt 16, 3) := by decide +kernel
theorem dX8_readClause_20 : decode cX8_readClause 20 = .ok (.iload_n 2, 1) := by decide +kernel
theorem dX8_readClause_21 : decode cX8_readClause 21 = .ok (.ifCond .eq 14, 3) := by decide +kernel
theorem dX8_readClause_24 : decode cX8_readClause 24 = .ok (.aload_n 1, 1) := by decide +kernel
theorem dX8_readClause_25 : decode cX8_readClause 25 = .ok (.getfield 43, 3) := by decide +kernel
theorem dX8_readClause_28 : decode cX8_readClause 28 = .ok (.iconst 0, 1) := by decide +kernel
theorem dX8_readClause_29 : decode cX8_readClause 29 = .ok (.iaload, 1) := by decide +kernel
theorem dX8_readClause_30 : decode cX8_readClause 30 = .ok (.ifCond .ne 5, 3) := by decide +kernel
theorem dX8_readClause_33 : decode cX8_readClause 33 = .ok (.iconst 1, 1) := by decide +kernel
theorem dX8_readClause_34 : decode cX8_readClause 34 = .ok (.ireturn, 1) := by decide +kernel
theorem dX8_readClause_35 : decode cX8_readClause 35 = .ok (.aload_n 1, 1) := by decide +kernel
theorem dX8_readClause_36 : decode cX8_readClause 36 = .ok (.getfield 43, 3) := by decide +kernel
theorem dX8_readClause_39 : decode cX8_readClause 39 = .ok (.iload_n 2, 1) := by decide +kernel
theorem dX8_readClause_40 : decode cX8_readClause 40 = .ok (.iaload, 1) := by decide +kernel
theorem dX8_readClause_41 : decode cX8_readClause 41 = .ok (.istore_n 3, 1) := by decide +kernel
theorem dX8_readClause_42 : decode cX8_readClause 42 = .ok (.iload_n 3, 1) := by decide +kernel
theorem dX8_readClause_43 : decode cX8_readClause 43 = .ok (.getstatic 46, 3) := by decide +kernel
theorem dX8_readClause_46 : decode cX8_readClause 46 = .ok (.iload_n 2, 1) := by decide +kernel
theorem dX8_readClause_47 : decode cX8_readClause 47 = .ok (.iaload, 1) := by decide +kernel
theorem dX8_readClause_48 : decode cX8_readClause 48 = .ok (.if_icmp .lt 5, 3) := by decide +kernel
theorem dX8_readClause_51 : decode cX8_readClause 51 = .ok (.iconst 3, 1) := by decide +kernel
theorem dX8_readClause_52 : decode cX8_readClause 52 = .ok (.ireturn, 1) := by decide +kernel
theorem dX8_readClause_53 : decode cX8_readClause 53 = .ok (.aload_n 0, 1) := by decide +kernel
theorem dX8_readClause_54 : decode cX8_readClause 54 = .ok (.dup, 1) := by decide +kernel
theorem dX8_readClause_55 : decode cX8_readClause 55 = .ok (.getfield 24, 3) := by decide +kernel
theorem dX8_readClause_58 : decode cX8_readClause 58 = .ok (.iconst 1, 1) := by decide +kernel
theorem dX8_readClause_59 : decode cX8_readClause 59 = .ok (.iadd, 1) := by decide +kernel
theorem dX8_readClause_60 : decode cX8_readClause 60 = .ok (.putfield 24, 3) := by decide +kernel
theorem dX8_readClause_63 : decode cX8_readClause 63 = .ok (.iconst 0, 1) := by decide +kernel
theorem dX8_readClause_64 : decode cX8_readClause 64 = .ok (.istore 4, 2) := by decide +kernel
theorem dX8_readClause_66 : decode cX8_readClause 66 = .ok (.iload 4, 2) := by decide +kernel
theorem dX8_readClause_68 : decode cX8_readClause 68 = .ok (.getstatic 49, 3) := by decide +kernel
theorem dX8_readClause_71 : decode cX8_readClause 71 = .ok (.iload_n 2, 1) := by decide +kernel
theorem dX8_readClause_72 : decode cX8_readClause 72 = .ok (.iaload, 1) := by decide +kernel
theorem dX8_readClause_73 : decode cX8_readClause 73 = .ok (.if_icmp .ge 37, 3) := by decide +kernel
theorem dX8_readClause_76 : decode cX8_readClause 76 = .ok (.aload_n 0, 1) := by decide +kernel
theorem dX8_readClause_77 : decode cX8_readClause 77 = .ok (.iload_n 2, 1) := by decide +kernel
theorem dX8_readClause_78 : decode cX8_readClause 78 = .ok (.iload 4, 2) := by decide +kernel
theorem dX8_readClause_80 : decode cX8_readClause 80 = .ok (.invokevirtual 52, 3) := by decide +kernel
theorem dX8_readClause_83 : decode cX8_readClause 83 = .ok (.istore 5, 2) := by decide +kernel
theorem dX8_readClause_85 : decode cX8_readClause 85 = .ok (.iload 5, 2) := by decide +kernel
theorem dX8_readClause_87 : decode cX8_readClause 87 = .ok (.ifCond .ge 7, 3) := by decide +kernel
theorem dX8_readClause_90 : decode cX8_readClause 90 = .ok (.iload 5, 2) := by decide +kernel
theorem dX8_readClause_92 : decode cX8_readClause 92 = .ok (.ineg, 1) := by decide +kernel
theorem dX8_readClause_93 : decode cX8_readClause 93 = .ok (.ireturn, 1) := by decide +kernel
theorem dX8_readClause_94 : decode cX8_readClause 94 = .ok (.aload_n 1, 1) := by decide +kernel
theorem dX8_readClause_95 : decode cX8_readClause 95 = .ok (.iload_n 2, 1) := by decide +kernel
theorem dX8_readClause_96 : decode cX8_readClause 96 = .ok (.iload_n 3, 1) := by decide +kernel
theorem dX8_readClause_97 : decode cX8_readClause 97 = .ok (.iload 4, 2) := by decide +kernel
theorem dX8_readClause_99 : decode cX8_readClause 99 = .ok (.iload 5, 2) := by decide +kernel
theorem dX8_readClause_101 : decode cX8_readClause 101 = .ok (.invokevirtual 56, 3) := by decide +kernel
theorem dX8_readClause_104 : decode cX8_readClause 104 = .ok (.iinc 4 1, 3) := by decide +kernel
theorem dX8_readClause_107 : decode cX8_readClause 107 = .ok (.goto (-41), 3) := by decide +kernel
theorem dX8_readClause_110 : decode cX8_readClause 110 = .ok (.aload_n 0, 1) := by decide +kernel
theorem dX8_readClause_111 : decode cX8_readClause 111 = .ok (.invokevirtual 27, 3) := by decide +kernel
theorem dX8_readClause_114 : decode cX8_readClause 114 = .ok (.ifCond .ne 17, 3) := by decide +kernel
theorem dX8_readClause_117 : decode cX8_readClause 117 = .ok (.aload_n 0, 1) := by decide +kernel
theorem dX8_readClause_118 : decode cX8_readClause 118 = .ok (.getfield 9, 3) := by decide +kernel
theorem dX8_readClause_121 : decode cX8_readClause 121 = .ok (.aload_n 0, 1) := by decide +kernel
theorem dX8_readClause_122 : decode cX8_readClause 122 = .ok (.getfield 24, 3) := by decide +kernel
theorem dX8_readClause_125 : decode cX8_readClause 125 = .ok (.iaload, 1) := by decide +kernel
theorem dX8_readClause_126 : decode cX8_readClause 126 = .ok (.bipush 59, 2) := by decide +kernel
theorem dX8_readClause_128 : decode cX8_readClause 128 = .ok (.if_icmp .eq 5, 3) := by decide +kernel
theorem dX8_readClause_131 : decode cX8_readClause 131 = .ok (.iconst 1, 1) := by decide +kernel
theorem dX8_readClause_132 : decode cX8_readClause 132 = .ok (.ireturn, 1) := by decide +kernel
theorem dX8_readClause_133 : decode cX8_readClause 133 = .ok (.aload_n 0, 1) := by decide +kernel
theorem dX8_readClause_134 : decode cX8_readClause 134 = .ok (.dup, 1) := by decide +kernel
theorem dX8_readClause_135 : decode cX8_readClause 135 = .ok (.getfield 24, 3) := by decide +kernel
theorem dX8_readClause_138 : decode cX8_readClause 138 = .ok (.iconst 1, 1) := by decide +kernel
theorem dX8_readClause_139 : decode cX8_readClause 139 = .ok (.iadd, 1) := by decide +kernel
theorem dX8_readClause_140 : decode cX8_readClause 140 = .ok (.putfield 24, 3) := by decide +kernel
theorem dX8_readClause_143 : decode cX8_readClause 143 = .ok (.aload_n 1, 1) := by decide +kernel
theorem dX8_readClause_144 : decode cX8_readClause 144 = .ok (.getfield 43, 3) := by decide +kernel
theorem dX8_readClause_147 : decode cX8_readClause 147 = .ok (.iload_n 2, 1) := by decide +kernel
theorem dX8_readClause_148 : decode cX8_readClause 148 = .ok (.dup2, 1) := by decide +kernel
theorem dX8_readClause_149 : decode cX8_readClause 149 = .ok (.iaload, 1) := by decide +kernel
theorem dX8_readClause_150 : decode cX8_readClause 150 = .ok (.iconst 1, 1) := by decide +kernel
theorem dX8_readClause_151 : decode cX8_readClause 151 = .ok (.iadd, 1) := by decide +kernel
theorem dX8_readClause_152 : decode cX8_readClause 152 = .ok (.iastore, 1) := by decide +kernel
theorem dX8_readClause_153 : decode cX8_readClause 153 = .ok (.iconst 0, 1) := by decide +kernel
theorem dX8_readClause_154 : decode cX8_readClause 154 = .ok (.ireturn, 1) := by decide +kernel
theorem dX8_readNumber_0 : decode cX8_readNumber 0 = .ok (.aload_n 0, 1) := by decide +kernel
theorem dX8_readNumber_1 : decode cX8_readNumber 1 = .ok (.invokevirtual 27, 3) := by decide +kernel
theorem dX8_readNumber_4 : decode cX8_readNumber 4 = .ok (.ifCond .ne 18, 3) := by decide +kernel
theorem dX8_readNumber_7 : decode cX8_readNumber 7 = .ok (.aload_n 0, 1) := by decide +kernel
theorem dX8_readNumber_8 : decode cX8_readNumber 8 = .ok (.getfield 9, 3) := by decide +kernel
theorem dX8_readNumber_11 : decode cX8_readNumber 11 = .ok (.aload_n 0, 1) := by decide +kernel
theorem dX8_readNumber_12 : decode cX8_readNumber 12 = .ok (.getfield 24, 3) := by decide +kernel
theorem dX8_readNumber_15 : decode cX8_readNumber 15 = .ok (.iaload, 1) := by decide +kernel
theorem dX8_readNumber_16 : decode cX8_readNumber 16 = .ok (.invokestatic 60, 3) := by decide +kernel
theorem dX8_readNumber_19 : decode cX8_readNumber 19 = .ok (.ifCond .ne 5, 3) := by decide +kernel
theorem dX8_readNumber_22 : decode cX8_readNumber 22 = .ok (.iconst (-1), 1) := by decide +kernel
theorem dX8_readNumber_23 : decode cX8_readNumber 23 = .ok (.ireturn, 1) := by decide +kernel
theorem dX8_readNumber_24 : decode cX8_readNumber 24 = .ok (.aload_n 0, 1) := by decide +kernel
theorem dX8_readNumber_25 : decode cX8_readNumber 25 = .ok (.getfield 24, 3) := by decide +kernel
theorem dX8_readNumber_28 : decode cX8_readNumber 28 = .ok (.istore_n 3, 1) := by decide +kernel
theorem dX8_readNumber_29 : decode cX8_readNumber 29 = .ok (.iconst 0, 1) := by decide +kernel
theorem dX8_readNumber_30 : decode cX8_readNumber 30 = .ok (.istore 4, 2) := by decide +kernel
theorem dX8_readNumber_32 : decode cX8_readNumber 32 = .ok (.aload_n 0, 1) := by decide +kernel
theorem dX8_readNumber_33 : decode cX8_readNumber 33 = .ok (.getfield 24, 3) := by decide +kernel
theorem dX8_readNumber_36 : decode cX8_readNumber 36 = .ok (.aload_n 0, 1) := by decide +kernel
theorem dX8_readNumber_37 : decode cX8_readNumber 37 = .ok (.getfield 15, 3) := by decide +kernel
theorem dX8_readNumber_40 : decode cX8_readNumber 40 = .ok (.if_icmp .ge 61, 3) := by decide +kernel
theorem dX8_readNumber_43 : decode cX8_readNumber 43 = .ok (.aload_n 0, 1) := by decide +kernel
theorem dX8_readNumber_44 : decode cX8_readNumber 44 = .ok (.getfield 9, 3) := by decide +kernel
theorem dX8_readNumber_47 : decode cX8_readNumber 47 = .ok (.aload_n 0, 1) := by decide +kernel
theorem dX8_readNumber_48 : decode cX8_readNumber 48 = .ok (.getfield 24, 3) := by decide +kernel
theorem dX8_readNumber_51 : decode cX8_readNumber 51 = .ok (.iaload, 1) := by decide +kernel
theorem dX8_readNumber_52 : decode cX8_readNumber 52 = .ok (.invokestatic 60, 3) := by decide +kernel
theorem dX8_readNumber_55 : decode cX8_readNumber 55 = .ok (.ifCond .eq 46, 3) := by decide +kernel
theorem dX8_readNumber_58 : decode cX8_readNumber 58 = .ok (.aload_n 0, 1) := by decide +kernel
theorem dX8_readNumber_59 : decode cX8_readNumber 59 = .ok (.getfield 24, 3) := by decide +kernel
theorem dX8_readNumber_62 : decode cX8_readNumber 62 = .ok (.iload_n 3, 1) := by decide +kernel
theorem dX8_readNumber_63 : decode cX8_readNumber 63 = .ok (.isub, 1) := by decide +kernel
theorem dX8_readNumber_64 : decode cX8_readNumber 64 = .ok (.iconst 4, 1) := by decide +kernel
theorem dX8_readNumber_65 : decode cX8_readNumber 65 = .ok (.if_icmp .ge 23, 3) := by decide +kernel
theorem dX8_readNumber_68 : decode cX8_readNumber 68 = .ok (.iload 4, 2) := by decide +kernel
theorem dX8_readNumber_70 : decode cX8_readNumber 70 = .ok (.bipush 10, 2) := by decide +kernel
theorem dX8_readNumber_72 : decode cX8_readNumber 72 = .ok (.imul, 1) := by decide +kernel
theorem dX8_readNumber_73 : decode cX8_readNumber 73 = .ok (.aload_n 0, 1) := by decide +kernel
theorem dX8_readNumber_74 : decode cX8_readNumber 74 = .ok (.getfield 9, 3) := by decide +kernel
theorem dX8_readNumber_77 : decode cX8_readNumber 77 = .ok (.aload_n 0, 1) := by decide +kernel
theorem dX8_readNumber_78 : decode cX8_readNumber 78 = .ok (.getfield 24, 3) := by decide +kernel
theorem dX8_readNumber_81 : decode cX8_readNumber 81 = .ok (.iaload, 1) := by decide +kernel
theorem dX8_readNumber_82 : decode cX8_readNumber 82 = .ok (.iadd, 1) := by decide +kernel
theorem dX8_readNumber_83 : decode cX8_readNumber 83 = .ok (.bipush 48, 2) := by decide +kernel
theorem dX8_readNumber_85 : decode cX8_readNumber 85 = .ok (.isub, 1) := by decide +kernel
theorem dX8_readNumber_86 : decode cX8_readNumber 86 = .ok (.istore 4, 2) := by decide +kernel
theorem dX8_readNumber_88 : decode cX8_readNumber 88 = .ok (.aload_n 0, 1) := by decide +kernel
theorem dX8_readNumber_89 : decode cX8_readNumber 89 = .ok (.dup, 1) := by decide +kernel
theorem dX8_readNumber_90 : decode cX8_readNumber 90 = .ok (.getfield 24, 3) := by decide +kernel
theorem dX8_readNumber_93 : decode cX8_readNumber 93 = .ok (.iconst 1, 1) := by decide +kernel
theorem dX8_readNumber_94 : decode cX8_readNumber 94 = .ok (.iadd, 1) := by decide +kernel
theorem dX8_readNumber_95 : decode cX8_readNumber 95 = .ok (.putfield 24, 3) := by decide +kernel
theorem dX8_readNumber_98 : decode cX8_readNumber 98 = .ok (.goto (-66), 3) := by decide +kernel
theorem dX8_readNumber_101 : decode cX8_readNumber 101 = .ok (.aload_n 0, 1) := by decide +kernel
theorem dX8_readNumber_102 : decode cX8_readNumber 102 = .ok (.getfield 24, 3) := by decide +kernel
theorem dX8_readNumber_105 : decode cX8_readNumber 105 = .ok (.iload_n 3, 1) := by decide +kernel
theorem dX8_readNumber_106 : decode cX8_readNumber 106 = .ok (.isub, 1) := by decide +kernel
theorem dX8_readNumber_107 : decode cX8_readNumber 107 = .ok (.iconst 3, 1) := by decide +kernel
theorem dX8_readNumber_108 : decode cX8_readNumber 108 = .ok (.if_icmp .gt 31, 3) := by decide +kernel
theorem dX8_readNumber_111 : decode cX8_readNumber 111 = .ok (.iload 4, 2) := by decide +kernel
theorem dX8_readNumber_113 : decode cX8_readNumber 113 = .ok (.getstatic 64, 3) := by decide +kernel
theorem dX8_readNumber_116 : decode cX8_readNumber 116 = .ok (.iload_n 1, 1) := by decide +kernel
theorem dX8_readNumber_117 : decode cX8_readNumber 117 = .ok (.iconst 4, 1) := by decide +kernel
theorem dX8_readNumber_118 : decode cX8_readNumber 118 = .ok (.imul, 1) := by decide +kernel
theorem dX8_readNumber_119 : decode cX8_readNumber 119 = .ok (.iload_n 2, 1) := by decide +kernel
theorem dX8_readNumber_120 : decode cX8_readNumber 120 = .ok (.iadd, 1) := by decide +kernel
theorem dX8_readNumber_121 : decode cX8_readNumber 121 = .ok (.iaload, 1) := by decide +kernel
theorem dX8_readNumber_122 : decode cX8_readNumber 122 = .ok (.if_icmp .lt 17, 3) := by decide +kernel
theorem dX8_readNumber_125 : decode cX8_readNumber 125 = .ok (.iload 4, 2) := by decide +kernel
theorem dX8_readNumber_127 : decode cX8_readNumber 127 = .ok (.getstatic 67, 3) := by decide +kernel
theorem dX8_readNumber_130 : decode cX8_readNumber 130 = .ok (.iload_n 1, 1) := by decide +kernel
theorem dX8_readNumber_131 : decode cX8_readNumber 131 = .ok (.iconst 4, 1) := by decide +kernel
theorem dX8_readNumber_132 : decode cX8_readNumber 132 = .ok (.imul, 1) := by decide +kernel
theorem dX8_readNumber_133 : decode cX8_readNumber 133 = .ok (.iload_n 2, 1) := by decide +kernel
theorem dX8_readNumber_134 : decode cX8_readNumber 134 = .ok (.iadd, 1) := by decide +kernel
theorem dX8_readNumber_135 : decode cX8_readNumber 135 = .ok (.iaload, 1) := by decide +kernel
theorem dX8_readNumber_136 : decode cX8_readNumber 136 = .ok (.if_icmp .le 11, 3) := by decide +kernel
theorem dX8_readNumber_139 : decode cX8_readNumber 139 = .ok (.aload_n 0, 1) := by decide +kernel
theorem dX8_readNumber_140 : decode cX8_readNumber 140 = .ok (.iload_n 3, 1) := by decide +kernel
theorem dX8_readNumber_141 : decode cX8_readNumber 141 = .ok (.putfield 24, 3) := by decide +kernel
theorem dX8_readNumber_144 : decode cX8_readNumber 144 = .ok (.bipush (-2), 2) := by decide +kernel
theorem dX8_readNumber_146 : decode cX8_readNumber 146 = .ok (.ireturn, 1) := by decide +kernel
theorem dX8_readNumber_147 : decode cX8_readNumber 147 = .ok (.iload 4, 2) := by decide +kernel
theorem dX8_readNumber_149 : decode cX8_readNumber 149 = .ok (.ireturn, 1) := by decide +kernel
theorem dX8_isFigure_0 : decode cX8_isFigure 0 = .ok (.iload_n 0, 1) := by decide +kernel
theorem dX8_isFigure_1 : decode cX8_isFigure 1 = .ok (.bipush 48, 2) := by decide +kernel
theorem dX8_isFigure_3 : decode cX8_isFigure 3 = .ok (.if_icmp .lt 13, 3) := by decide +kernel
theorem dX8_isFigure_6 : decode cX8_isFigure 6 = .ok (.iload_n 0, 1) := by decide +kernel
theorem dX8_isFigure_7 : decode cX8_isFigure 7 = .ok (.bipush 57, 2) := by decide +kernel
theorem dX8_isFigure_9 : decode cX8_isFigure 9 = .ok (.if_icmp .gt 7, 3) := by decide +kernel
theorem dX8_isFigure_12 : decode cX8_isFigure 12 = .ok (.iconst 1, 1) := by decide +kernel
theorem dX8_isFigure_13 : decode cX8_isFigure 13 = .ok (.goto 4, 3) := by decide +kernel
theorem dX8_isFigure_16 : decode cX8_isFigure 16 = .ok (.iconst 0, 1) := by decide +kernel
theorem dX8_isFigure_17 : decode cX8_isFigure 17 = .ok (.ireturn, 1) := by decide +kernel
theorem dX9_init_0 : decode cX9_init 0 = .ok (.aload_n 0, 1) := by decide +kernel
theorem dX9_init_1 : decode cX9_init 1 = .ok (.invokespecial 3, 3) := by decide +kernel
theorem dX9_init_4 : decode cX9_init 4 = .ok (.aload_n 0, 1) := by decide +kernel
theorem dX9_init_5 : decode cX9_init 5 = .ok (.iconst 5, 1) := by decide +kernel
theorem dX9_init_6 : decode cX9_init 6 = .ok (.newarray .int, 2) := by decide +kernel
theorem dX9_init_8 : decode cX9_init 8 = .ok (.putfield 9, 3) := by decide +kernel
theorem dX9_init_11 : decode cX9_init 11 = .ok (.aload_n 0, 1) := by decide +kernel
theorem dX9_init_12 : decode cX9_init 12 = .ok (.bipush 116, 2) := by decide +kernel
theorem dX9_init_14 : decode cX9_init 14 = .ok (.newarray .int, 2) := by decide +kernel
theorem dX9_init_16 : decode cX9_init 16 = .ok (.putfield 15, 3) := by decide +kernel
theorem dX9_init_19 : decode cX9_init 19 = .ok (.return_, 1) := by decide +kernel
theorem dX9_clear_0 : decode cX9_clear 0 = .ok (.iconst 0, 1) := by decide +kernel
theorem dX9_clear_1 : decode cX9_clear 1 = .ok (.istore_n 1, 1) := by decide +kernel
theorem dX9_clear_2 : decode cX9_clear 2 = .ok (.iload_n 1, 1) := by decide +kernel
theorem dX9_clear_3 : decode cX9_clear 3 = .ok (.iconst 5, 1) := by decide +kernel
theorem dX9_clear_4 : decode cX9_clear 4 = .ok (.if_icmp .ge 16, 3) := by decide +kernel
theorem dX9_clear_7 : decode cX9_clear 7 = .ok (.aload_n 0, 1) := by decide +kernel
theorem dX9_clear_8 : decode cX9_clear 8 = .ok (.getfield 9, 3) := by decide +kernel
theorem dX9_clear_11 : decode cX9_clear 11 = .ok (.iload_n 1, 1) := by decide +kernel
theorem dX9_clear_12 : decode cX9_clear 12 = .ok (.iconst 0, 1) := by decide +kernel
theorem dX9_clear_13 : decode cX9_clear 13 = .ok (.iastore, 1) := by decide +kernel
theorem dX9_clear_14 : decode cX9_clear 14 = .ok (.iinc 1 1, 3) := by decide +kernel
theorem dX9_clear_17 : decode cX9_clear 17 = .ok (.goto (-15), 3) := by decide +kernel
theorem dX9_clear_20 : decode cX9_clear 20 = .ok (.return_, 1) := by decide +kernel
theorem dX9_value_0 : decode cX9_value 0 = .ok (.aload_n 0, 1) := by decide +kernel
theorem dX9_value_1 : decode cX9_value 1 = .ok (.getfield 15, 3) := by decide +kernel
theorem dX9_value_4 : decode cX9_value 4 = .ok (.getstatic 18, 3) := by decide +kernel
theorem dX9_value_7 : decode cX9_value 7 = .ok (.iload_n 1, 1) := by decide +kernel
theorem dX9_value_8 : decode cX9_value 8 = .ok (.iaload, 1) := by decide +kernel
theorem dX9_value_9 : decode cX9_value 9 = .ok (.iload_n 2, 1) := by decide +kernel
theorem dX9_value_10 : decode cX9_value 10 = .ok (.iadd, 1) := by decide +kernel
theorem dX9_value_11 : decode cX9_value 11 = .ok (.iconst 4, 1) := by decide +kernel
theorem dX9_value_12 : decode cX9_value 12 = .ok (.imul, 1) := by decide +kernel
theorem dX9_value_13 : decode cX9_value 13 = .ok (.iload_n 3, 1) := by decide +kernel
theorem dX9_value_14 : decode cX9_value 14 = .ok (.iadd, 1) := by decide +kernel
theorem dX9_value_15 : decode cX9_value 15 = .ok (.iaload, 1) := by decide +kernel
theorem dX9_value_16 : decode cX9_value 16 = .ok (.ireturn, 1) := by decide +kernel
theorem dX9_setValue_0 : decode cX9_setValue 0 = .ok (.aload_n 0, 1) := by decide +kernel
theorem dX9_setValue_1 : decode cX9_setValue 1 = .ok (.getfield 15, 3) := by decide +kernel
theorem dX9_setValue_4 : decode cX9_setValue 4 = .ok (.getstatic 18, 3) := by decide +kernel
theorem dX9_setValue_7 : decode cX9_setValue 7 = .ok (.iload_n 1, 1) := by decide +kernel
theorem dX9_setValue_8 : decode cX9_setValue 8 = .ok (.iaload, 1) := by decide +kernel
theorem dX9_setValue_9 : decode cX9_setValue 9 = .ok (.iload_n 2, 1) := by decide +kernel
theorem dX9_setValue_10 : decode cX9_setValue 10 = .ok (.iadd, 1) := by decide +kernel
theorem dX9_setValue_11 : decode cX9_setValue 11 = .ok (.iconst 4, 1) := by decide +kernel
theorem dX9_setValue_12 : decode cX9_setValue 12 = .ok (.imul, 1) := by decide +kernel
theorem dX9_setValue_13 : decode cX9_setValue 13 = .ok (.iload_n 3, 1) := by decide +kernel
theorem dX9_setValue_14 : decode cX9_setValue 14 = .ok (.iadd, 1) := by decide +kernel
theorem dX9_setValue_15 : decode cX9_setValue 15 = .ok (.iload 4, 2) := by decide +kernel
theorem dX9_setValue_17 : decode cX9_setValue 17 = .ok (.iastore, 1) := by decide +kernel
theorem dX9_setValue_18 : decode cX9_setValue 18 = .ok (.return_, 1) := by decide +kernel
theorem dX10_init_0 : decode cX10_init 0 = .ok (.aload_n 0, 1) := by decide +kernel
theorem dX10_init_1 : decode cX10_init 1 = .ok (.invokespecial 1, 3) := by decide +kernel
theorem dX10_init_4 : decode cX10_init 4 = .ok (.aload_n 0, 1) := by decide +kernel
theorem dX10_init_5 : decode cX10_init 5 = .ok (.new 7, 3) := by decide +kernel
theorem dX10_init_8 : decode cX10_init 8 = .ok (.dup, 1) := by decide +kernel
theorem dX10_init_9 : decode cX10_init 9 = .ok (.invokespecial 9, 3) := by decide +kernel
theorem dX10_init_12 : decode cX10_init 12 = .ok (.putfield 10, 3) := by decide +kernel
theorem dX10_init_15 : decode cX10_init 15 = .ok (.aload_n 0, 1) := by decide +kernel
theorem dX10_init_16 : decode cX10_init 16 = .ok (.new 16, 3) := by decide +kernel
theorem dX10_init_19 : decode cX10_init 19 = .ok (.dup, 1) := by decide +kernel
theorem dX10_init_20 : decode cX10_init 20 = .ok (.invokespecial 18, 3) := by decide +kernel
theorem dX10_init_23 : decode cX10_init 23 = .ok (.putfield 19, 3) := by decide +kernel
theorem dX10_init_26 : decode cX10_init 26 = .ok (.aload_n 0, 1) := by decide +kernel
theorem dX10_init_27 : decode cX10_init 27 = .ok (.new 23, 3) := by decide +kernel
theorem dX10_init_30 : decode cX10_init 30 = .ok (.dup, 1) := by decide +kernel
theorem dX10_init_31 : decode cX10_init 31 = .ok (.invokespecial 25, 3) := by decide +kernel
theorem dX10_init_34 : decode cX10_init 34 = .ok (.putfield 26, 3) := by decide +kernel
theorem dX10_init_37 : decode cX10_init 37 = .ok (.aload_n 0, 1) := by decide +kernel
theorem dX10_init_38 : decode cX10_init 38 = .ok (.new 30, 3) := by decide +kernel
theorem dX10_init_41 : decode cX10_init 41 = .ok (.dup, 1) := by decide +kernel
theorem dX10_init_42 : decode cX10_init 42 = .ok (.invokespecial 32, 3) := by decide +kernel
theorem dX10_init_45 : decode cX10_init 45 = .ok (.putfield 33, 3) := by decide +kernel
theorem dX10_init_48 : decode cX10_init 48 = .ok (.aload_n 0, 1) := by decide +kernel
theorem dX10_init_49 : decode cX10_init 49 = .ok (.new 37, 3) := by decide +kernel
theorem dX10_init_52 : decode cX10_init 52 = .ok (.dup, 1) := by decide +kernel
theorem dX10_init_53 : decode cX10_init 53 = .ok (.invokespecial 39, 3) := by decide +kernel
theorem dX10_init_56 : decode cX10_init 56 = .ok (.putfield 40, 3) := by decide +kernel
theorem dX10_init_59 : decode cX10_init 59 = .ok (.aload_n 0, 1) := by decide +kernel
theorem dX10_init_60 : decode cX10_init 60 = .ok (.iconst 2, 1) := by decide +kernel
theorem dX10_init_61 : decode cX10_init 61 = .ok (.anewarray 44, 3) := by decide +kernel
theorem dX10_init_64 : decode cX10_init 64 = .ok (.putfield 46, 3) := by decide +kernel
theorem dX10_init_67 : decode cX10_init 67 = .ok (.aload_n 0, 1) := by decide +kernel
theorem dX10_init_68 : decode cX10_init 68 = .ok (.new 50, 3) := by decide +kernel
theorem dX10_init_71 : decode cX10_init 71 = .ok (.dup, 1) := by decide +kernel
theorem dX10_init_72 : decode cX10_init 72 = .ok (.aload_n 0, 1) := by decide +kernel
theorem dX10_init_73 : decode cX10_init 73 = .ok (.getfield 19, 3) := by decide +kernel
theorem dX10_init_76 : decode cX10_init 76 = .ok (.invokespecial 52, 3) := by decide +kernel
theorem dX10_init_79 : decode cX10_init 79 = .ok (.putfield 55, 3) := by decide +kernel
theorem dX10_init_82 : decode cX10_init 82 = .ok (.aload_n 0, 1) := by decide +kernel
theorem dX10_init_83 : decode cX10_init 83 = .ok (.new 59, 3) := by decide +kernel
theorem dX10_init_86 : decode cX10_init 86 = .ok (.dup, 1) := by decide +kernel
theorem dX10_init_87 : decode cX10_init 87 = .ok (.aload_n 0, 1) := by decide +kernel
theorem dX10_init_88 : decode cX10_init 88 = .ok (.getfield 19, 3) := by decide +kernel
theorem dX10_init_91 : decode cX10_init 91 = .ok (.invokespecial 61, 3) := by decide +kernel
theorem dX10_init_94 : decode cX10_init 94 = .ok (.putfield 62, 3) := by decide +kernel
theorem dX10_init_97 : decode cX10_init 97 = .ok (.aload_n 0, 1) := by decide +kernel
theorem dX10_init_98 : decode cX10_init 98 = .ok (.new 66, 3) := by decide +kernel
theorem dX10_init_101 : decode cX10_init 101 = .ok (.dup, 1) := by decide +kernel
theorem dX10_init_102 : decode cX10_init 102 = .ok (.invokespecial 68, 3) := by decide +kernel
theorem dX10_init_105 : decode cX10_init 105 = .ok (.putfield 69, 3) := by decide +kernel
theorem dX10_init_108 : decode cX10_init 108 = .ok (.aload_n 0, 1) := by decide +kernel
theorem dX10_init_109 : decode cX10_init 109 = .ok (.iconst (-1), 1) := by decide +kernel
theorem dX10_init_110 : decode cX10_init 110 = .ok (.putfield 73, 3) := by decide +kernel
theorem dX10_init_113 : decode cX10_init 113 = .ok (.iconst 0, 1) := by decide +kernel
theorem dX10_init_114 : decode cX10_init 114 = .ok (.istore_n 1, 1) := by decide +kernel
theorem dX10_init_115 : decode cX10_init 115 = .ok (.iload_n 1, 1) := by decide +kernel
theorem dX10_init_116 : decode cX10_init 116 = .ok (.iconst 2, 1) := by decide +kernel
theorem dX10_init_117 : decode cX10_init 117 = .ok (.if_icmp .ge 22, 3) := by decide +kernel
theorem dX10_init_120 : decode cX10_init 120 = .ok (.aload_n 0, 1) := by decide +kernel
theorem dX10_init_121 : decode cX10_init 121 = .ok (.getfield 46, 3) := by decide +kernel
theorem dX10_init_124 : decode cX10_init 124 = .ok (.iload_n 1, 1) := by decide +kernel
theorem dX10_init_125 : decode cX10_init 125 = .ok (.new 44, 3) := by decide +kernel
theorem dX10_init_128 : decode cX10_init 128 = .ok (.dup, 1) := by decide +kernel
theorem dX10_init_129 : decode cX10_init 129 = .ok (.invokespecial 77, 3) := by decide +kernel
theorem dX10_init_132 : decode cX10_init 132 = .ok (.aastore, 1) := by decide +kernel
theorem dX10_init_133 : decode cX10_init 133 = .ok (.iinc 1 1, 3) := by decide +kernel
theorem dX10_init_136 : decode cX10_init 136 = .ok (.goto (-21), 3) := by decide +kernel
theorem dX10_init_139 : decode cX10_init 139 = .ok (.return_, 1) := by decide +kernel
theorem dX10_feed_0 : decode cX10_feed 0 = .ok (.iload_n 1, 1) := by decide +kernel
theorem dX10_feed_1 : decode cX10_feed 1 = .ok (.ifCond .lt 10, 3) := by decide +kernel
theorem dX10_feed_4 : decode cX10_feed 4 = .ok (.iload_n 1, 1) := by decide +kernel
theorem dX10_feed_5 : decode cX10_feed 5 = .ok (.sipush 255, 3) := by decide +kernel
theorem dX10_feed_8 : decode cX10_feed 8 = .ok (.if_icmp .le 6, 3) := by decide +kernel
theorem dX10_feed_11 : decode cX10_feed 11 = .ok (.ldc 78, 2) := by decide +kernel
theorem dX10_feed_13 : decode cX10_feed 13 = .ok (.ireturn, 1) := by decide +kernel
theorem dX10_feed_14 : decode cX10_feed 14 = .ok (.aload_n 0, 1) := by decide +kernel
theorem dX10_feed_15 : decode cX10_feed 15 = .ok (.getfield 10, 3) := by decide +kernel
theorem dX10_feed_18 : decode cX10_feed 18 = .ok (.getfield 79, 3) := by decide +kernel
theorem dX10_feed_21 : decode cX10_feed 21 = .ok (.sipush 240, 3) := by decide +kernel
theorem dX10_feed_24 : decode cX10_feed 24 = .ok (.if_icmp .lt 6, 3) := by decide +kernel
theorem dX10_feed_27 : decode cX10_feed 27 = .ok (.ldc 82, 2) := by decide +kernel
theorem dX10_feed_29 : decode cX10_feed 29 = .ok (.ireturn, 1) := by decide +kernel
theorem dX10_feed_30 : decode cX10_feed 30 = .ok (.aload_n 0, 1) := by decide +kernel
theorem dX10_feed_31 : decode cX10_feed 31 = .ok (.getfield 10, 3) := by decide +kernel
theorem dX10_feed_34 : decode cX10_feed 34 = .ok (.iload_n 1, 1) := by decide +kernel
theorem dX10_feed_35 : decode cX10_feed 35 = .ok (.invokevirtual 83, 3) := by decide +kernel
theorem dX10_feed_38 : decode cX10_feed 38 = .ok (.aload_n 0, 1) := by decide +kernel
theorem dX10_feed_39 : decode cX10_feed 39 = .ok (.getfield 10, 3) := by decide +kernel
theorem dX10_feed_42 : decode cX10_feed 42 = .ok (.getfield 79, 3) := by decide +kernel
theorem dX10_feed_45 : decode cX10_feed 45 = .ok (.ireturn, 1) := by decide +kernel
theorem dX10_tin_0 : decode cX10_tin 0 = .ok (.aload_n 0, 1) := by decide +kernel
theorem dX10_tin_1 : decode cX10_tin 1 = .ok (.getfield 10, 3) := by decide +kernel
theorem dX10_tin_4 : decode cX10_tin 4 = .ok (.aload_n 0, 1) := by decide +kernel
theorem dX10_tin_5 : decode cX10_tin 5 = .ok (.getfield 69, 3) := by decide +kernel
theorem dX10_tin_8 : decode cX10_tin 8 = .ok (.invokevirtual 87, 3) := by decide +kernel
theorem dX10_tin_11 : decode cX10_tin 11 = .ok (.istore_n 1, 1) := by decide +kernel
theorem dX10_tin_12 : decode cX10_tin 12 = .ok (.iload_n 1, 1) := by decide +kernel
theorem dX10_tin_13 : decode cX10_tin 13 = .ok (.ifCond .eq 26, 3) := by decide +kernel
theorem dX10_tin_16 : decode cX10_tin 16 = .ok (.aload_n 0, 1) := by decide +kernel
theorem dX10_tin_17 : decode cX10_tin 17 = .ok (.aload_n 0, 1) := by decide +kernel
theorem dX10_tin_18 : decode cX10_tin 18 = .ok (.getfield 10, 3) := by decide +kernel
theorem dX10_tin_21 : decode cX10_tin 21 = .ok (.getfield 91, 3) := by decide +kernel
theorem dX10_tin_24 : decode cX10_tin 24 = .ok (.putfield 73, 3) := by decide +kernel
theorem dX10_tin_27 : decode cX10_tin 27 = .ok (.aload_n 0, 1) := by decide +kernel
theorem dX10_tin_28 : decode cX10_tin 28 = .ok (.getfield 10, 3) := by decide +kernel
theorem dX10_tin_31 : decode cX10_tin 31 = .ok (.invokevirtual 94, 3) := by decide +kernel
theorem dX10_tin_34 : decode cX10_tin 34 = .ok (.bipush (-10), 2) := by decide +kernel
theorem dX10_tin_36 : decode cX10_tin 36 = .ok (.iload_n 1, 1) := by decide +kernel
theorem dX10_tin_37 : decode cX10_tin 37 = .ok (.isub, 1) := by decide +kernel
theorem dX10_tin_38 : decode cX10_tin 38 = .ok (.ireturn, 1) := by decide +kernel
theorem dX10_tin_39 : decode cX10_tin 39 = .ok (.aload_n 0, 1) := by decide +kernel
theorem dX10_tin_40 : decode cX10_tin 40 = .ok (.iconst (-1), 1) := by decide +kernel
theorem dX10_tin_41 : decode cX10_tin 41 = .ok (.putfield 73, 3) := by decide +kernel
theorem dX10_tin_44 : decode cX10_tin 44 = .ok (.aload_n 0, 1) := by decide +kernel
theorem dX10_tin_45 : decode cX10_tin 45 = .ok (.getfield 10, 3) := by decide +kernel
theorem dX10_tin_48 : decode cX10_tin 48 = .ok (.invokevirtual 94, 3) := by decide +kernel
theorem dX10_tin_51 : decode cX10_tin 51 = .ok (.aload_n 0, 1) := by decide +kernel
theorem dX10_tin_52 : decode cX10_tin 52 = .ok (.getfield 19, 3) := by decide +kernel
theorem dX10_tin_55 : decode cX10_tin 55 = .ok (.getfield 97, 3) := by decide +kernel
theorem dX10_tin_58 : decode cX10_tin 58 = .ok (.astore_n 2, 1) := by decide +kernel
theorem dX10_tin_59 : decode cX10_tin 59 = .ok (.aload_n 0, 1) := by decide +kernel
theorem dX10_tin_60 : decode cX10_tin 60 = .ok (.getfield 19, 3) := by decide +kernel
theorem dX10_tin_63 : decode cX10_tin 63 = .ok (.aload_n 0, 1) := by decide +kernel
theorem dX10_tin_64 : decode cX10_tin 64 = .ok (.getfield 69, 3) := by decide +kernel
theorem dX10_tin_67 : decode cX10_tin 67 = .ok (.putfield 97, 3) := by decide +kernel
theorem dX10_tin_70 : decode cX10_tin 70 = .ok (.aload_n 0, 1) := by decide +kernel
theorem dX10_tin_71 : decode cX10_tin 71 = .ok (.aload_n 2, 1) := by decide +kernel
theorem dX10_tin_72 : decode cX10_tin 72 = .ok (.putfield 69, 3) := by decide +kernel
theorem dX10_tin_75 : decode cX10_tin 75 = .ok (.aload_n 0, 1) := by decide +kernel
theorem dX10_tin_76 : decode cX10_tin 76 = .ok (.getfield 19, 3) := by decide +kernel
theorem dX10_tin_79 : decode cX10_tin 79 = .ok (.getfield 100, 3) := by decide +kernel
theorem dX10_tin_82 : decode cX10_tin 82 = .ok (.aload_n 0, 1) := by decide +kernel
theorem dX10_tin_83 : decode cX10_tin 83 = .ok (.getfield 19, 3) := by decide +kernel
theorem dX10_tin_86 : decode cX10_tin 86 = .ok (.getfield 97, 3) := by decide +kernel
theorem dX10_tin_89 : decode cX10_tin 89 = .ok (.invokevirtual 104, 3) := by decide +kernel
theorem dX10_tin_92 : decode cX10_tin 92 = .ok (.aload_n 0, 1) := by decide +kernel
theorem dX10_tin_93 : decode cX10_tin 93 = .ok (.getfield 33, 3) := by decide +kernel
theorem dX10_tin_96 : decode cX10_tin 96 = .ok (.invokevirtual 110, 3) := by decide +kernel
theorem dX10_tin_99 : decode cX10_tin 99 = .ok (.aload_n 0, 1) := by decide +kernel
theorem dX10_tin_100 : decode cX10_tin 100 = .ok (.getfield 26, 3) := by decide +kernel
theorem dX10_tin_103 : decode cX10_tin 103 = .ok (.invokevirtual 111, 3) := by decide +kernel
theorem dX10_tin_106 : decode cX10_tin 106 = .ok (.iconst 0, 1) := by decide +kernel
theorem dX10_tin_107 : decode cX10_tin 107 = .ok (.istore_n 3, 1) := by decide +kernel
theorem dX10_tin_108 : decode cX10_tin 108 = .ok (.iload_n 3, 1) := by decide +kernel
theorem dX10_tin_109 : decode cX10_tin 109 = .ok (.iconst 2, 1) := by decide +kernel
theorem dX10_tin_110 : decode cX10_tin 110 = .ok (.if_icmp .ge 19, 3) := by decide +kernel
theorem dX10_tin_113 : decode cX10_tin 113 = .ok (.aload_n 0, 1) := by decide +kernel
theorem dX10_tin_114 : decode cX10_tin 114 = .ok (.getfield 46, 3) := by decide +kernel
theorem dX10_tin_117 : decode cX10_tin 117 = .ok (.iload_n 3, 1) := by decide +kernel
theorem dX10_tin_118 : decode cX10_tin 118 = .ok (.aaload, 1) := by decide +kernel
theorem dX10_tin_119 : decode cX10_tin 119 = .ok (.iconst 0, 1) := by decide +kernel
theorem dX10_tin_120 : decode cX10_tin 120 = .ok (.putfield 112, 3) := by decide +kernel
theorem dX10_tin_123 : decode cX10_tin 123 = .ok (.iinc 3 1, 3) := by decide +kernel
theorem dX10_tin_126 : decode cX10_tin 126 = .ok (.goto (-18), 3) := by decide +kernel
theorem dX10_tin_129 : decode cX10_tin 129 = .ok (.aload_n 0, 1) := by decide +kernel
theorem dX10_tin_130 : decode cX10_tin 130 = .ok (.getfield 19, 3) := by decide +kernel
theorem dX10_tin_133 : decode cX10_tin 133 = .ok (.iconst 1, 1) := by decide +kernel
theorem dX10_tin_134 : decode cX10_tin 134 = .ok (.invokevirtual 116, 3) := by decide +kernel
theorem dX10_tin_137 : decode cX10_tin 137 = .ok (.ireturn, 1) := by decide +kernel
theorem dX10_fault_0 : decode cX10_fault 0 = .ok (.aload_n 0, 1) := by decide +kernel
theorem dX10_fault_1 : decode cX10_fault 1 = .ok (.getfield 73, 3) := by decide +kernel
theorem dX10_fault_4 : decode cX10_fault 4 = .ok (.ireturn, 1) := by decide +kernel
theorem dX10_told_0 : decode cX10_told 0 = .ok (.iload_n 1, 1) := by decide +kernel
theorem dX10_told_1 : decode cX10_told 1 = .ok (.tableswitch 222 0 15 #[79, 87, 96, 105, 114, 123, 131, 141, 151, 163, 174, 182, 190, 198, 206, 214], 79) := by decide +kernel
theorem dX10_told_80 : decode cX10_told 80 = .ok (.aload_n 0, 1) := by decide +kernel
theorem dX10_told_81 : decode cX10_told 81 = .ok (.getfield 19, 3) := by decide +kernel
theorem dX10_told_84 : decode cX10_told 84 = .ok (.invokevirtual 120, 3) := by decide +kernel
theorem dX10_told_87 : decode cX10_told 87 = .ok (.ireturn, 1) := by decide +kernel
theorem dX10_told_88 : decode cX10_told 88 = .ok (.aload_n 0, 1) := by decide +kernel
theorem dX10_told_89 : decode cX10_told 89 = .ok (.getfield 19, 3) := by decide +kernel
theorem dX10_told_92 : decode cX10_told 92 = .ok (.iconst 1, 1) := by decide +kernel
theorem dX10_told_93 : decode cX10_told 93 = .ok (.invokevirtual 116, 3) := by decide +kernel
theorem dX10_told_96 : decode cX10_told 96 = .ok (.ireturn, 1) := by decide +kernel
theorem dX10_told_97 : decode cX10_told 97 = .ok (.aload_n 0, 1) := by decide +kernel
theorem dX10_told_98 : decode cX10_told 98 = .ok (.getfield 19, 3) := by decide +kernel
theorem dX10_told_101 : decode cX10_told 101 = .ok (.iconst 2, 1) := by decide +kernel
theorem dX10_told_102 : decode cX10_told 102 = .ok (.invokevirtual 116, 3) := by decide +kernel
theorem dX10_told_105 : decode cX10_told 105 = .ok (.ireturn, 1) := by decide +kernel
theorem dX10_told_106 : decode cX10_told 106 = .ok (.aload_n 0, 1) := by decide +kernel
theorem dX10_told_107 : decode cX10_told 107 = .ok (.getfield 19, 3) := by decide +kernel
theorem dX10_told_110 : decode cX10_told 110 = .ok (.iconst 3, 1) := by decide +kernel
theorem dX10_told_111 : decode cX10_told 111 = .ok (.invokevirtual 116, 3) := by decide +kernel
theorem dX10_told_114 : decode cX10_told 114 = .ok (.ireturn, 1) := by decide +kernel
theorem dX10_told_115 : decode cX10_told 115 = .ok (.aload_n 0, 1) := by decide +kernel
theorem dX10_told_116 : decode cX10_told 116 = .ok (.getfield 19, 3) := by decide +kernel
theorem dX10_told_119 : decode cX10_told 119 = .ok (.iconst 4, 1) := by decide +kernel
theorem dX10_told_120 : decode cX10_told 120 = .ok (.invokevirtual 116, 3) := by decide +kernel
theorem dX10_told_123 : decode cX10_told 123 = .ok (.ireturn, 1) := by decide +kernel
theorem dX10_told_124 : decode cX10_told 124 = .ok (.aload_n 0, 1) := by decide +kernel
theorem dX10_told_125 : decode cX10_told 125 = .ok (.getfield 10, 3) := by decide +kernel
theorem dX10_told_128 : decode cX10_told 128 = .ok (.getfield 79, 3) := by decide +kernel
theorem dX10_told_131 : decode cX10_told 131 = .ok (.ireturn, 1) := by decide +kernel
theorem dX10_told_132 : decode cX10_told 132 = .ok (.aload_n 0, 1) := by decide +kernel
theorem dX10_told_133 : decode cX10_told 133 = .ok (.getfield 19, 3) := by decide +kernel
theorem dX10_told_136 : decode cX10_told 136 = .ok (.bipush 6, 2) := by decide +kernel
theorem dX10_told_138 : decode cX10_told 138 = .ok (.invokevirtual 124, 3) := by decide +kernel
theorem dX10_told_141 : decode cX10_told 141 = .ok (.ireturn, 1) := by decide +kernel
theorem dX10_told_142 : decode cX10_told 142 = .ok (.aload_n 0, 1) := by decide +kernel
theorem dX10_told_143 : decode cX10_told 143 = .ok (.getfield 19, 3) := by decide +kernel
theorem dX10_told_146 : decode cX10_told 146 = .ok (.bipush 7, 2) := by decide +kernel
theorem dX10_told_148 : decode cX10_told 148 = .ok (.invokevirtual 124, 3) := by decide +kernel
theorem dX10_told_151 : decode cX10_told 151 = .ok (.ireturn, 1) := by decide +kernel
theorem dX10_told_152 : decode cX10_told 152 = .ok (.aload_n 0, 1) := by decide +kernel
theorem dX10_told_153 : decode cX10_told 153 = .ok (.getfield 19, 3) := by decide +kernel
theorem dX10_told_156 : decode cX10_told 156 = .ok (.bipush 8, 2) := by decide +kernel
theorem dX10_told_158 : decode cX10_told 158 = .ok (.bipush 13, 2) := by decide +kernel
theorem dX10_told_160 : decode cX10_told 160 = .ok (.invokevirtual 126, 3) := by decide +kernel
theorem dX10_told_163 : decode cX10_told 163 = .ok (.ireturn, 1) := by decide +kernel
theorem dX10_told_164 : decode cX10_told 164 = .ok (.aload_n 0, 1) := by decide +kernel
theorem dX10_told_165 : decode cX10_told 165 = .ok (.getfield 19, 3) := by decide +kernel
theorem dX10_told_168 : decode cX10_told 168 = .ok (.getfield 100, 3) := by decide +kernel
theorem dX10_told_171 : decode cX10_told 171 = .ok (.getfield 130, 3) := by decide +kernel
theorem dX10_told_174 : decode cX10_told 174 = .ok (.ireturn, 1) := by decide +kernel
theorem dX10_told_175 : decode cX10_told 175 = .ok (.aload_n 0, 1) := by decide +kernel
theorem dX10_told_176 : decode cX10_told 176 = .ok (.getfield 19, 3) := by decide +kernel
theorem dX10_told_179 : decode cX10_told 179 = .ok (.invokevirtual 133, 3) := by decide +kernel
theorem dX10_told_182 : decode cX10_told 182 = .ok (.ireturn, 1) := by decide +kernel
theorem dX10_told_183 : decode cX10_told 183 = .ok (.aload_n 0, 1) := by decide +kernel
theorem dX10_told_184 : decode cX10_told 184 = .ok (.getfield 19, 3) := by decide +kernel
theorem dX10_told_187 : decode cX10_told 187 = .ok (.invokevirtual 136, 3) := by decide +kernel
theorem dX10_told_190 : decode cX10_told 190 = .ok (.ireturn, 1) := by decide +kernel
theorem dX10_told_191 : decode cX10_told 191 = .ok (.aload_n 0, 1) := by decide +kernel
theorem dX10_told_192 : decode cX10_told 192 = .ok (.getfield 19, 3) := by decide +kernel
theorem dX10_told_195 : decode cX10_told 195 = .ok (.invokevirtual 139, 3) := by decide +kernel
theorem dX10_told_198 : decode cX10_told 198 = .ok (.ireturn, 1) := by decide +kernel
theorem dX10_told_199 : decode cX10_told 199 = .ok (.aload_n 0, 1) := by decide +kernel
theorem dX10_told_200 : decode cX10_told 200 = .ok (.getfield 19, 3) := by decide +kernel
theorem dX10_told_203 : decode cX10_told 203 = .ok (.invokevirtual 142, 3) := by decide +kernel
theorem dX10_told_206 : decode cX10_told 206 = .ok (.ireturn, 1) := by decide +kernel
theorem dX10_told_207 : decode cX10_told 207 = .ok (.aload_n 0, 1) := by decide +kernel
theorem dX10_told_208 : decode cX10_told 208 = .ok (.getfield 33, 3) := by decide +kernel
theorem dX10_told_211 : decode cX10_told 211 = .ok (.getfield 145, 3) := by decide +kernel
theorem dX10_told_214 : decode cX10_told 214 = .ok (.ireturn, 1) := by decide +kernel
theorem dX10_told_215 : decode cX10_told 215 = .ok (.aload_n 0, 1) := by decide +kernel
theorem dX10_told_216 : decode cX10_told 216 = .ok (.getfield 26, 3) := by decide +kernel
theorem dX10_told_219 : decode cX10_told 219 = .ok (.getfield 148, 3) := by decide +kernel
theorem dX10_told_222 : decode cX10_told 222 = .ok (.ireturn, 1) := by decide +kernel
theorem dX10_told_223 : decode cX10_told 223 = .ok (.ldc 78, 2) := by decide +kernel
theorem dX10_told_225 : decode cX10_told 225 = .ok (.ireturn, 1) := by decide +kernel
theorem dX10_button_0 : decode cX10_button 0 = .ok (.aload_n 0, 1) := by decide +kernel
theorem dX10_button_1 : decode cX10_button 1 = .ok (.iconst 1, 1) := by decide +kernel
theorem dX10_button_2 : decode cX10_button 2 = .ok (.iload_n 1, 1) := by decide +kernel
theorem dX10_button_3 : decode cX10_button 3 = .ok (.invokevirtual 149, 3) := by decide +kernel
theorem dX10_button_6 : decode cX10_button 6 = .ok (.ifCond .ne 6, 3) := by decide +kernel
theorem dX10_button_9 : decode cX10_button 9 = .ok (.ldc 153, 2) := by decide +kernel
theorem dX10_button_11 : decode cX10_button 11 = .ok (.ireturn, 1) := by decide +kernel
theorem dX10_button_12 : decode cX10_button 12 = .ok (.iload_n 2, 1) := by decide +kernel
theorem dX10_button_13 : decode cX10_button 13 = .ok (.ifCond .lt 18, 3) := by decide +kernel
theorem dX10_button_16 : decode cX10_button 16 = .ok (.iload_n 2, 1) := by decide +kernel
theorem dX10_button_17 : decode cX10_button 17 = .ok (.iconst 4, 1) := by decide +kernel
theorem dX10_button_18 : decode cX10_button 18 = .ok (.if_icmp .ge 13, 3) := by decide +kernel
theorem dX10_button_21 : decode cX10_button 21 = .ok (.aload_n 0, 1) := by decide +kernel
theorem dX10_button_22 : decode cX10_button 22 = .ok (.getfield 19, 3) := by decide +kernel
theorem dX10_button_25 : decode cX10_button 25 = .ok (.iload_n 1, 1) := by decide +kernel
theorem dX10_button_26 : decode cX10_button 26 = .ok (.iload_n 2, 1) := by decide +kernel
theorem dX10_button_27 : decode cX10_button 27 = .ok (.invokevirtual 154, 3) := by decide +kernel
theorem dX10_button_30 : decode cX10_button 30 = .ok (.ireturn, 1) := by decide +kernel
theorem dX10_button_31 : decode cX10_button 31 = .ok (.iload_n 2, 1) := by decide +kernel
theorem dX10_button_32 : decode cX10_button 32 = .ok (.tableswitch 90 4 7 #[32, 41, 50, 81], 32) := by decide +kernel
theorem dX10_button_64 : decode cX10_button 64 = .ok (.aload_n 0, 1) := by decide +kernel
theorem dX10_button_65 : decode cX10_button 65 = .ok (.getfield 19, 3) := by decide +kernel
theorem dX10_button_68 : decode cX10_button 68 = .ok (.iload_n 1, 1) := by decide +kernel
theorem dX10_button_69 : decode cX10_button 69 = .ok (.invokevirtual 157, 3) := by decide +kernel
theorem dX10_button_72 : decode cX10_button 72 = .ok (.ireturn, 1) := by decide +kernel
theorem dX10_button_73 : decode cX10_button 73 = .ok (.aload_n 0, 1) := by decide +kernel
theorem dX10_button_74 : decode cX10_button 74 = .ok (.getfield 19, 3) := by decide +kernel
theorem dX10_button_77 : decode cX10_button 77 = .ok (.iload_n 1, 1) := by decide +kernel
theorem dX10_button_78 : decode cX10_button 78 = .ok (.invokevirtual 160, 3) := by decide +kernel
theorem dX10_button_81 : decode cX10_button 81 = .ok (.ireturn, 1) := by decide +kernel
theorem dX10_button_82 : decode cX10_button 82 = .ok (.aload_n 0, 1) := by decide +kernel
theorem dX10_button_83 : decode cX10_button 83 = .ok (.getfield 19, 3) := by decide +kernel
theorem dX10_button_86 : decode cX10_button 86 = .ok (.iload_n 1, 1) := by decide +kernel
theorem dX10_button_87 : decode cX10_button 87 = .ok (.invokevirtual 163, 3) := by decide +kernel
theorem dX10_button_90 : decode cX10_button 90 = .ok (.ifCond .eq 21, 3) := by decide +kernel
theorem dX10_button_93 : decode cX10_button 93 = .ok (.aload_n 0, 1) := by decide +kernel
theorem dX10_button_94 : decode cX10_button 94 = .ok (.getfield 19, 3) := by decide +kernel
theorem dX10_button_97 : decode cX10_button 97 = .ok (.getfield 100, 3) := by decide +kernel
theorem dX10_button_100 : decode cX10_button 100 = .ok (.getfield 167, 3) := by decide +kernel
theorem dX10_button_103 : decode cX10_button 103 = .ok (.iload_n 1, 1) := by decide +kernel
theorem dX10_button_104 : decode cX10_button 104 = .ok (.iaload, 1) := by decide +kernel
theorem dX10_button_105 : decode cX10_button 105 = .ok (.bipush 8, 2) := by decide +kernel
theorem dX10_button_107 : decode cX10_button 107 = .ok (.isub, 1) := by decide +kernel
theorem dX10_button_108 : decode cX10_button 108 = .ok (.goto 4, 3) := by decide +kernel
theorem dX10_button_111 : decode cX10_button 111 = .ok (.iconst (-1), 1) := by decide +kernel
theorem dX10_button_112 : decode cX10_button 112 = .ok (.ireturn, 1) := by decide +kernel
theorem dX10_button_113 : decode cX10_button 113 = .ok (.aload_n 0, 1) := by decide +kernel
theorem dX10_button_114 : decode cX10_button 114 = .ok (.getfield 19, 3) := by decide +kernel
theorem dX10_button_117 : decode cX10_button 117 = .ok (.iload_n 1, 1) := by decide +kernel
theorem dX10_button_118 : decode cX10_button 118 = .ok (.invokevirtual 171, 3) := by decide +kernel
theorem dX10_button_121 : decode cX10_button 121 = .ok (.ireturn, 1) := by decide +kernel
theorem dX10_button_122 : decode cX10_button 122 = .ok (.ldc 78, 2) := by decide +kernel
theorem dX10_button_124 : decode cX10_button 124 = .ok (.ireturn, 1) := by decide +kernel
theorem dX10_rule_0 : decode cX10_rule 0 = .ok (.aload_n 0, 1) := by decide +kernel
theorem dX10_rule_1 : decode cX10_rule 1 = .ok (.iconst 2, 1) := by decide +kernel
theorem dX10_rule_2 : decode cX10_rule 2 = .ok (.iload_n 1, 1) := by decide +kernel
theorem dX10_rule_3 : decode cX10_rule 3 = .ok (.invokevirtual 149, 3) := by decide +kernel
theorem dX10_rule_6 : decode cX10_rule 6 = .ok (.ifCond .ne 6, 3) := by decide +kernel
theorem dX10_rule_9 : decode cX10_rule 9 = .ok (.ldc 153, 2) := by decide +kernel
theorem dX10_rule_11 : decode cX10_rule 11 = .ok (.ireturn, 1) := by decide +kernel
theorem dX10_rule_12 : decode cX10_rule 12 = .ok (.iload_n 2, 1) := by decide +kernel
theorem dX10_rule_13 : decode cX10_rule 13 = .ok (.ifCond .lt 22, 3) := by decide +kernel
theorem dX10_rule_16 : decode cX10_rule 16 = .ok (.iload_n 2, 1) := by decide +kernel
theorem dX10_rule_17 : decode cX10_rule 17 = .ok (.iconst 4, 1) := by decide +kernel
theorem dX10_rule_18 : decode cX10_rule 18 = .ok (.if_icmp .ge 17, 3) := by decide +kernel
theorem dX10_rule_21 : decode cX10_rule 21 = .ok (.aload_n 0, 1) := by decide +kernel
theorem dX10_rule_22 : decode cX10_rule 22 = .ok (.getfield 19, 3) := by decide +kernel
theorem dX10_rule_25 : decode cX10_rule 25 = .ok (.getfield 97, 3) := by decide +kernel
theorem dX10_rule_28 : decode cX10_rule 28 = .ok (.iconst 2, 1) := by decide +kernel
theorem dX10_rule_29 : decode cX10_rule 29 = .ok (.iload_n 1, 1) := by decide +kernel
theorem dX10_rule_30 : decode cX10_rule 30 = .ok (.iload_n 2, 1) := by decide +kernel
theorem dX10_rule_31 : decode cX10_rule 31 = .ok (.invokevirtual 174, 3) := by decide +kernel
theorem dX10_rule_34 : decode cX10_rule 34 = .ok (.ireturn, 1) := by decide +kernel
theorem dX10_rule_35 : decode cX10_rule 35 = .ok (.iload_n 2, 1) := by decide +kernel
theorem dX10_rule_36 : decode cX10_rule 36 = .ok (.iconst 4, 1) := by decide +kernel
theorem dX10_rule_37 : decode cX10_rule 37 = .ok (.if_icmp .ne 14, 3) := by decide +kernel
theorem dX10_rule_40 : decode cX10_rule 40 = .ok (.aload_n 0, 1) := by decide +kernel
theorem dX10_rule_41 : decode cX10_rule 41 = .ok (.getfield 19, 3) := by decide +kernel
theorem dX10_rule_44 : decode cX10_rule 44 = .ok (.iload_n 1, 1) := by decide +kernel
theorem dX10_rule_45 : decode cX10_rule 45 = .ok (.invokevirtual 178, 3) := by decide +kernel
theorem dX10_rule_48 : decode cX10_rule 48 = .ok (.goto 5, 3) := by decide +kernel
theorem dX10_rule_51 : decode cX10_rule 51 = .ok (.ldc 78, 2) := by decide +kernel
theorem dX10_rule_53 : decode cX10_rule 53 = .ok (.ireturn, 1) := by decide +kernel
theorem dX10_cause_0 : decode cX10_cause 0 = .ok (.aload_n 0, 1) := by decide +kernel
theorem dX10_cause_1 : decode cX10_cause 1 = .ok (.iconst 3, 1) := by decide +kernel
theorem dX10_cause_2 : decode cX10_cause 2 = .ok (.iload_n 1, 1) := by decide +kernel
theorem dX10_cause_3 : decode cX10_cause 3 = .ok (.invokevirtual 149, 3) := by decide +kernel
theorem dX10_cause_6 : decode cX10_cause 6 = .ok (.ifCond .ne 6, 3) := by decide +kernel
theorem dX10_cause_9 : decode cX10_cause 9 = .ok (.ldc 153, 2) := by decide +kernel
theorem dX10_cause_11 : decode cX10_cause 11 = .ok (.ireturn, 1) := by decide +kernel
theorem dX10_cause_12 : decode cX10_cause 12 = .ok (.iload_n 2, 1) := by decide +kernel
theorem dX10_cause_13 : decode cX10_cause 13 = .ok (.ifCond .lt 24, 3) := by decide +kernel
theorem dX10_cause_16 : decode cX10_cause 16 = .ok (.iload_n 2, 1) := by decide +kernel
theorem dX10_cause_17 : decode cX10_cause 17 = .ok (.iconst 4, 1) := by decide +kernel
theorem dX10_cause_18 : decode cX10_cause 18 = .ok (.if_icmp .ge 19, 3) := by decide +kernel
theorem dX10_cause_21 : decode cX10_cause 21 = .ok (.aload_n 0, 1) := by decide +kernel
theorem dX10_cause_22 : decode cX10_cause 22 = .ok (.getfield 19, 3) := by decide +kernel
theorem dX10_cause_25 : decode cX10_cause 25 = .ok (.getfield 97, 3) := by decide +kernel
theorem dX10_cause_28 : decode cX10_cause 28 = .ok (.iconst 3, 1) := by decide +kernel
theorem dX10_cause_29 : decode cX10_cause 29 = .ok (.iload_n 1, 1) := by decide +kernel
theorem dX10_cause_30 : decode cX10_cause 30 = .ok (.iload_n 2, 1) := by decide +kernel
theorem dX10_cause_31 : decode cX10_cause 31 = .ok (.invokevirtual 174, 3) := by decide +kernel
theorem dX10_cause_34 : decode cX10_cause 34 = .ok (.goto 5, 3) := by decide +kernel
theorem dX10_cause_37 : decode cX10_cause 37 = .ok (.ldc 78, 2) := by decide +kernel
theorem dX10_cause_39 : decode cX10_cause 39 = .ok (.ireturn, 1) := by decide +kernel
theorem dX10_need_0 : decode cX10_need 0 = .ok (.aload_n 0, 1) := by decide +kernel
theorem dX10_need_1 : decode cX10_need 1 = .ok (.iconst 4, 1) := by decide +kernel
theorem dX10_need_2 : decode cX10_need 2 = .ok (.iload_n 1, 1) := by decide +kernel
theorem dX10_need_3 : decode cX10_need 3 = .ok (.invokevirtual 149, 3) := by decide +kernel
theorem dX10_need_6 : decode cX10_need 6 = .ok (.ifCond .ne 6, 3) := by decide +kernel
theorem dX10_need_9 : decode cX10_need 9 = .ok (.ldc 153, 2) := by decide +kernel
theorem dX10_need_11 : decode cX10_need 11 = .ok (.ireturn, 1) := by decide +kernel
theorem dX10_need_12 : decode cX10_need 12 = .ok (.iload_n 2, 1) := by decide +kernel
theorem dX10_need_13 : decode cX10_need 13 = .ok (.lookupswitch 45 #[(0, 27), (1, 36)], 27) := by decide +kernel
theorem dX10_need_40 : decode cX10_need 40 = .ok (.aload_n 0, 1) := by decide +kernel
theorem dX10_need_41 : decode cX10_need 41 = .ok (.getfield 19, 3) := by decide +kernel
theorem dX10_need_44 : decode cX10_need 44 = .ok (.iload_n 1, 1) := by decide +kernel
theorem dX10_need_45 : decode cX10_need 45 = .ok (.invokevirtual 181, 3) := by decide +kernel
theorem dX10_need_48 : decode cX10_need 48 = .ok (.ireturn, 1) := by decide +kernel
theorem dX10_need_49 : decode cX10_need 49 = .ok (.aload_n 0, 1) := by decide +kernel
theorem dX10_need_50 : decode cX10_need 50 = .ok (.getfield 19, 3) := by decide +kernel
theorem dX10_need_53 : decode cX10_need 53 = .ok (.iload_n 1, 1) := by decide +kernel
theorem dX10_need_54 : decode cX10_need 54 = .ok (.invokevirtual 184, 3) := by decide +kernel
theorem dX10_need_57 : decode cX10_need 57 = .ok (.ireturn, 1) := by decide +kernel
theorem dX10_need_58 : decode cX10_need 58 = .ok (.ldc 78, 2) := by decide +kernel
theorem dX10_need_60 : decode cX10_need 60 = .ok (.ireturn, 1) := by decide +kernel
theorem dX10_heap_0 : decode cX10_heap 0 = .ok (.iload_n 1, 1) := by decide +kernel
theorem dX10_heap_1 : decode cX10_heap 1 = .ok (.invokestatic 187, 3) := by decide +kernel
theorem dX10_heap_4 : decode cX10_heap 4 = .ok (.ifCond .eq 14, 3) := by decide +kernel
theorem dX10_heap_7 : decode cX10_heap 7 = .ok (.aload_n 0, 1) := by decide +kernel
theorem dX10_heap_8 : decode cX10_heap 8 = .ok (.getfield 19, 3) := by decide +kernel
theorem dX10_heap_11 : decode cX10_heap 11 = .ok (.iload_n 1, 1) := by decide +kernel
theorem dX10_heap_12 : decode cX10_heap 12 = .ok (.invokevirtual 124, 3) := by decide +kernel
theorem dX10_heap_15 : decode cX10_heap 15 = .ok (.goto 5, 3) := by decide +kernel
theorem dX10_heap_18 : decode cX10_heap 18 = .ok (.ldc 78, 2) := by decide +kernel
theorem dX10_heap_20 : decode cX10_heap 20 = .ok (.ireturn, 1) := by decide +kernel
theorem dX10_put_0 : decode cX10_put 0 = .ok (.aload_n 0, 1) := by decide +kernel
theorem dX10_put_1 : decode cX10_put 1 = .ok (.iconst 1, 1) := by decide +kernel
theorem dX10_put_2 : decode cX10_put 2 = .ok (.iload_n 1, 1) := by decide +kernel
theorem dX10_put_3 : decode cX10_put 3 = .ok (.invokevirtual 149, 3) := by decide +kernel
theorem dX10_put_6 : decode cX10_put 6 = .ok (.ifCond .ne 6, 3) := by decide +kernel
theorem dX10_put_9 : decode cX10_put 9 = .ok (.ldc 153, 2) := by decide +kernel
theorem dX10_put_11 : decode cX10_put 11 = .ok (.ireturn, 1) := by decide +kernel
theorem dX10_put_12 : decode cX10_put 12 = .ok (.iload_n 2, 1) := by decide +kernel
theorem dX10_put_13 : decode cX10_put 13 = .ok (.invokestatic 187, 3) := by decide +kernel
theorem dX10_put_16 : decode cX10_put 16 = .ok (.ifCond .ne 6, 3) := by decide +kernel
theorem dX10_put_19 : decode cX10_put 19 = .ok (.ldc 78, 2) := by decide +kernel
theorem dX10_put_21 : decode cX10_put 21 = .ok (.ireturn, 1) := by decide +kernel
theorem dX10_put_22 : decode cX10_put 22 = .ok (.aload_n 0, 1) := by decide +kernel
theorem dX10_put_23 : decode cX10_put 23 = .ok (.getfield 19, 3) := by decide +kernel
theorem dX10_put_26 : decode cX10_put 26 = .ok (.iload_n 1, 1) := by decide +kernel
theorem dX10_put_27 : decode cX10_put 27 = .ok (.invokevirtual 163, 3) := by decide +kernel
theorem dX10_put_30 : decode cX10_put 30 = .ok (.ifCond .ne 19, 3) := by decide +kernel
theorem dX10_put_33 : decode cX10_put 33 = .ok (.aload_n 0, 1) := by decide +kernel
theorem dX10_put_34 : decode cX10_put 34 = .ok (.getfield 19, 3) := by decide +kernel
theorem dX10_put_37 : decode cX10_put 37 = .ok (.getfield 100, 3) := by decide +kernel
theorem dX10_put_40 : decode cX10_put 40 = .ok (.getfield 167, 3) := by decide +kernel
theorem dX10_put_43 : decode cX10_put 43 = .ok (.iload_n 1, 1) := by decide +kernel
theorem dX10_put_44 : decode cX10_put 44 = .ok (.iaload, 1) := by decide +kernel
theorem dX10_put_45 : decode cX10_put 45 = .ok (.iload_n 2, 1) := by decide +kernel
theorem dX10_put_46 : decode cX10_put 46 = .ok (.if_icmp .ne 6, 3) := by decide +kernel
theorem dX10_put_49 : decode cX10_put 49 = .ok (.ldc 190, 2) := by decide +kernel
theorem dX10_put_51 : decode cX10_put 51 = .ok (.ireturn, 1) := by decide +kernel
theorem dX10_put_52 : decode cX10_put 52 = .ok (.aload_n 0, 1) := by decide +kernel
theorem dX10_put_53 : decode cX10_put 53 = .ok (.getfield 26, 3) := by decide +kernel
theorem dX10_put_56 : decode cX10_put 56 = .ok (.aload_n 0, 1) := by decide +kernel
theorem dX10_put_57 : decode cX10_put 57 = .ok (.getfield 19, 3) := by decide +kernel
theorem dX10_put_60 : decode cX10_put 60 = .ok (.getfield 100, 3) := by decide +kernel
theorem dX10_put_63 : decode cX10_put 63 = .ok (.invokevirtual 191, 3) := by decide +kernel
theorem dX10_put_66 : decode cX10_put 66 = .ok (.aload_n 0, 1) := by decide +kernel
theorem dX10_put_67 : decode cX10_put 67 = .ok (.getfield 19, 3) := by decide +kernel
theorem dX10_put_70 : decode cX10_put 70 = .ok (.getfield 100, 3) := by decide +kernel
theorem dX10_put_73 : decode cX10_put 73 = .ok (.getfield 167, 3) := by decide +kernel
theorem dX10_put_76 : decode cX10_put 76 = .ok (.iload_n 1, 1) := by decide +kernel
theorem dX10_put_77 : decode cX10_put 77 = .ok (.iload_n 2, 1) := by decide +kernel
theorem dX10_put_78 : decode cX10_put 78 = .ok (.iastore, 1) := by decide +kernel
theorem dX10_put_79 : decode cX10_put 79 = .ok (.aload_n 0, 1) := by decide +kernel
theorem dX10_put_80 : decode cX10_put 80 = .ok (.getfield 19, 3) := by decide +kernel
theorem dX10_put_83 : decode cX10_put 83 = .ok (.iload_n 2, 1) := by decide +kernel
theorem dX10_put_84 : decode cX10_put 84 = .ok (.invokevirtual 124, 3) := by decide +kernel
theorem dX10_put_87 : decode cX10_put 87 = .ok (.ireturn, 1) := by decide +kernel
theorem dX10_takeBack_0 : decode cX10_takeBack 0 = .ok (.aload_n 0, 1) := by decide +kernel
theorem dX10_takeBack_1 : decode cX10_takeBack 1 = .ok (.iconst 1, 1) := by decide +kernel
theorem dX10_takeBack_2 : decode cX10_takeBack 2 = .ok (.iload_n 1, 1) := by decide +kernel
theorem dX10_takeBack_3 : decode cX10_takeBack 3 = .ok (.invokevirtual 149, 3) := by decide +kernel
theorem dX10_takeBack_6 : decode cX10_takeBack 6 = .ok (.ifCond .ne 6, 3) := by decide +kernel
theorem dX10_takeBack_9 : decode cX10_takeBack 9 = .ok (.ldc 153, 2) := by decide +kernel
theorem dX10_takeBack_11 : decode cX10_takeBack 11 = .ok (.ireturn, 1) := by decide +kernel
theorem dX10_takeBack_12 : decode cX10_takeBack 12 = .ok (.aload_n 0, 1) := by decide +kernel
theorem dX10_takeBack_13 : decode cX10_takeBack 13 = .ok (.getfield 19, 3) := by decide +kernel
theorem dX10_takeBack_16 : decode cX10_takeBack 16 = .ok (.iload_n 1, 1) := by decide +kernel
theorem dX10_takeBack_17 : decode cX10_takeBack 17 = .ok (.invokevirtual 163, 3) := by decide +kernel
theorem dX10_takeBack_20 : decode cX10_takeBack 20 = .ok (.ifCond .ne 20, 3) := by decide +kernel
theorem dX10_takeBack_23 : decode cX10_takeBack 23 = .ok (.aload_n 0, 1) := by decide +kernel
theorem dX10_takeBack_24 : decode cX10_takeBack 24 = .ok (.getfield 19, 3) := by decide +kernel
theorem dX10_takeBack_27 : decode cX10_takeBack 27 = .ok (.getfield 100, 3) := by decide +kernel
theorem dX10_takeBack_30 : decode cX10_takeBack 30 = .ok (.getfield 167, 3) := by decide +kernel
theorem dX10_takeBack_33 : decode cX10_takeBack 33 = .ok (.iload_n 1, 1) := by decide +kernel
theorem dX10_takeBack_34 : decode cX10_takeBack 34 = .ok (.iaload, 1) := by decide +kernel
theorem dX10_takeBack_35 : decode cX10_takeBack 35 = .ok (.bipush 6, 2) := by decide +kernel
theorem dX10_takeBack_37 : decode cX10_takeBack 37 = .ok (.if_icmp .ne 6, 3) := by decide +kernel
theorem dX10_takeBack_40 : decode cX10_takeBack 40 = .ok (.ldc 190, 2) := by decide +kernel
theorem dX10_takeBack_42 : decode cX10_takeBack 42 = .ok (.ireturn, 1) := by decide +kernel
theorem dX10_takeBack_43 : decode cX10_takeBack 43 = .ok (.aload_n 0, 1) := by decide +kernel
theorem dX10_takeBack_44 : decode cX10_takeBack 44 = .ok (.getfield 26, 3) := by decide +kernel
theorem dX10_takeBack_47 : decode cX10_takeBack 47 = .ok (.aload_n 0, 1) := by decide +kernel
theorem dX10_takeBack_48 : decode cX10_takeBack 48 = .ok (.getfield 19, 3) := by decide +kernel
theorem dX10_takeBack_51 : decode cX10_takeBack 51 = .ok (.getfield 100, 3) := by decide +kernel
theorem dX10_takeBack_54 : decode cX10_takeBack 54 = .ok (.invokevirtual 191, 3) := by decide +kernel
theorem dX10_takeBack_57 : decode cX10_takeBack 57 = .ok (.aload_n 0, 1) := by decide +kernel
theorem dX10_takeBack_58 : decode cX10_takeBack 58 = .ok (.getfield 19, 3) := by decide +kernel
theorem dX10_takeBack_61 : decode cX10_takeBack 61 = .ok (.getfield 100, 3) := by decide +kernel
theorem dX10_takeBack_64 : decode cX10_takeBack 64 = .ok (.getfield 167, 3) := by decide +kernel
theorem dX10_takeBack_67 : decode cX10_takeBack 67 = .ok (.iload_n 1, 1) := by decide +kernel
theorem dX10_takeBack_68 : decode cX10_takeBack 68 = .ok (.bipush 6, 2) := by decide +kernel
theorem dX10_takeBack_70 : decode cX10_takeBack 70 = .ok (.iastore, 1) := by decide +kernel
theorem dX10_takeBack_71 : decode cX10_takeBack 71 = .ok (.aload_n 0, 1) := by decide +kernel
theorem dX10_takeBack_72 : decode cX10_takeBack 72 = .ok (.getfield 19, 3) := by decide +kernel
theorem dX10_takeBack_75 : decode cX10_takeBack 75 = .ok (.bipush 6, 2) := by decide +kernel
theorem dX10_takeBack_77 : decode cX10_takeBack 77 = .ok (.invokevirtual 124, 3) := by decide +kernel
theorem dX10_takeBack_80 : decode cX10_takeBack 80 = .ok (.ireturn, 1) := by decide +kernel
theorem dX10_sort_0 : decode cX10_sort 0 = .ok (.aload_n 0, 1) := by decide +kernel
theorem dX10_sort_1 : decode cX10_sort 1 = .ok (.getfield 19, 3) := by decide +kernel
theorem dX10_sort_4 : decode cX10_sort 4 = .ok (.bipush 6, 2) := by decide +kernel
theorem dX10_sort_6 : decode cX10_sort 6 = .ok (.invokevirtual 124, 3) := by decide +kernel
theorem dX10_sort_9 : decode cX10_sort 9 = .ok (.istore_n 1, 1) := by decide +kernel
theorem dX10_sort_10 : decode cX10_sort 10 = .ok (.iload_n 1, 1) := by decide +kernel
theorem dX10_sort_11 : decode cX10_sort 11 = .ok (.ifCond .ne 6, 3) := by decide +kernel
theorem dX10_sort_14 : decode cX10_sort 14 = .ok (.ldc 190, 2) := by decide +kernel
theorem dX10_sort_16 : decode cX10_sort 16 = .ok (.ireturn, 1) := by decide +kernel
theorem dX10_sort_17 : decode cX10_sort 17 = .ok (.aload_n 0, 1) := by decide +kernel
theorem dX10_sort_18 : decode cX10_sort 18 = .ok (.getfield 26, 3) := by decide +kernel
theorem dX10_sort_21 : decode cX10_sort 21 = .ok (.aload_n 0, 1) := by decide +kernel
theorem dX10_sort_22 : decode cX10_sort 22 = .ok (.getfield 19, 3) := by decide +kernel
theorem dX10_sort_25 : decode cX10_sort 25 = .ok (.getfield 100, 3) := by decide +kernel
theorem dX10_sort_28 : decode cX10_sort 28 = .ok (.invokevirtual 191, 3) := by decide +kernel
theorem dX10_sort_31 : decode cX10_sort 31 = .ok (.iconst 0, 1) := by decide +kernel
theorem dX10_sort_32 : decode cX10_sort 32 = .ok (.istore_n 2, 1) := by decide +kernel
theorem dX10_sort_33 : decode cX10_sort 33 = .ok (.iload_n 2, 1) := by decide +kernel
theorem dX10_sort_34 : decode cX10_sort 34 = .ok (.bipush 12, 2) := by decide +kernel
theorem dX10_sort_36 : decode cX10_sort 36 = .ok (.if_icmp .ge 25, 3) := by decide +kernel
theorem dX10_sort_39 : decode cX10_sort 39 = .ok (.iload_n 1, 1) := by decide +kernel
theorem dX10_sort_40 : decode cX10_sort 40 = .ok (.iload_n 2, 1) := by decide +kernel
theorem dX10_sort_41 : decode cX10_sort 41 = .ok (.invokestatic 195, 3) := by decide +kernel
theorem dX10_sort_44 : decode cX10_sort 44 = .ok (.ifCond .eq 11, 3) := by decide +kernel
theorem dX10_sort_47 : decode cX10_sort 47 = .ok (.aload_n 0, 1) := by decide +kernel
theorem dX10_sort_48 : decode cX10_sort 48 = .ok (.getfield 19, 3) := by decide +kernel
theorem dX10_sort_51 : decode cX10_sort 51 = .ok (.iload_n 2, 1) := by decide +kernel
theorem dX10_sort_52 : decode cX10_sort 52 = .ok (.invokevirtual 198, 3) := by decide +kernel
theorem dX10_sort_55 : decode cX10_sort 55 = .ok (.iinc 2 1, 3) := by decide +kernel
theorem dX10_sort_58 : decode cX10_sort 58 = .ok (.goto (-25), 3) := by decide +kernel
theorem dX10_sort_61 : decode cX10_sort 61 = .ok (.iload_n 1, 1) := by decide +kernel
theorem dX10_sort_62 : decode cX10_sort 62 = .ok (.invokestatic 201, 3) := by decide +kernel
theorem dX10_sort_65 : decode cX10_sort 65 = .ok (.ireturn, 1) := by decide +kernel
theorem dX10_sew_0 : decode cX10_sew 0 = .ok (.aload_n 0, 1) := by decide +kernel
theorem dX10_sew_1 : decode cX10_sew 1 = .ok (.iconst 1, 1) := by decide +kernel
theorem dX10_sew_2 : decode cX10_sew 2 = .ok (.iload_n 1, 1) := by decide +kernel
theorem dX10_sew_3 : decode cX10_sew 3 = .ok (.invokevirtual 149, 3) := by decide +kernel
theorem dX10_sew_6 : decode cX10_sew 6 = .ok (.ifCond .eq 12, 3) := by decide +kernel
theorem dX10_sew_9 : decode cX10_sew 9 = .ok (.aload_n 0, 1) := by decide +kernel
theorem dX10_sew_10 : decode cX10_sew 10 = .ok (.iconst 4, 1) := by decide +kernel
theorem dX10_sew_11 : decode cX10_sew 11 = .ok (.iload_n 2, 1) := by decide +kernel
theorem dX10_sew_12 : decode cX10_sew 12 = .ok (.invokevirtual 149, 3) := by decide +kernel
theorem dX10_sew_15 : decode cX10_sew 15 = .ok (.ifCond .ne 6, 3) := by decide +kernel
theorem dX10_sew_18 : decode cX10_sew 18 = .ok (.ldc 153, 2) := by decide +kernel
theorem dX10_sew_20 : decode cX10_sew 20 = .ok (.ireturn, 1) := by decide +kernel
theorem dX10_sew_21 : decode cX10_sew 21 = .ok (.aload_n 0, 1) := by decide +kernel
theorem dX10_sew_22 : decode cX10_sew 22 = .ok (.getfield 19, 3) := by decide +kernel
theorem dX10_sew_25 : decode cX10_sew 25 = .ok (.iload_n 1, 1) := by decide +kernel
theorem dX10_sew_26 : decode cX10_sew 26 = .ok (.invokevirtual 163, 3) := by decide +kernel
theorem dX10_sew_29 : decode cX10_sew 29 = .ok (.ifCond .ne 34, 3) := by decide +kernel
theorem dX10_sew_32 : decode cX10_sew 32 = .ok (.aload_n 0, 1) := by decide +kernel
theorem dX10_sew_33 : decode cX10_sew 33 = .ok (.getfield 19, 3) := by decide +kernel
theorem dX10_sew_36 : decode cX10_sew 36 = .ok (.iload_n 2, 1) := by decide +kernel
theorem dX10_sew_37 : decode cX10_sew 37 = .ok (.invokevirtual 184, 3) := by decide +kernel
theorem dX10_sew_40 : decode cX10_sew 40 = .ok (.iconst (-1), 1) := by decide +kernel
theorem dX10_sew_41 : decode cX10_sew 41 = .ok (.if_icmp .ne 22, 3) := by decide +kernel
theorem dX10_sew_44 : decode cX10_sew 44 = .ok (.aload_n 0, 1) := by decide +kernel
theorem dX10_sew_45 : decode cX10_sew 45 = .ok (.getfield 19, 3) := by decide +kernel
theorem dX10_sew_48 : decode cX10_sew 48 = .ok (.iload_n 1, 1) := by decide +kernel
theorem dX10_sew_49 : decode cX10_sew 49 = .ok (.invokevirtual 157, 3) := by decide +kernel
theorem dX10_sew_52 : decode cX10_sew 52 = .ok (.aload_n 0, 1) := by decide +kernel
theorem dX10_sew_53 : decode cX10_sew 53 = .ok (.getfield 19, 3) := by decide +kernel
theorem dX10_sew_56 : decode cX10_sew 56 = .ok (.iload_n 2, 1) := by decide +kernel
theorem dX10_sew_57 : decode cX10_sew 57 = .ok (.invokevirtual 181, 3) := by decide +kernel
theorem dX10_sew_60 : decode cX10_sew 60 = .ok (.if_icmp .ge 6, 3) := by decide +kernel
theorem dX10_sew_63 : decode cX10_sew 63 = .ok (.ldc 190, 2) := by decide +kernel
theorem dX10_sew_65 : decode cX10_sew 65 = .ok (.ireturn, 1) := by decide +kernel
theorem dX10_sew_66 : decode cX10_sew 66 = .ok (.aload_n 0, 1) := by decide +kernel
theorem dX10_sew_67 : decode cX10_sew 67 = .ok (.getfield 26, 3) := by decide +kernel
theorem dX10_sew_70 : decode cX10_sew 70 = .ok (.aload_n 0, 1) := by decide +kernel
theorem dX10_sew_71 : decode cX10_sew 71 = .ok (.getfield 19, 3) := by decide +kernel
theorem dX10_sew_74 : decode cX10_sew 74 = .ok (.getfield 100, 3) := by decide +kernel
theorem dX10_sew_77 : decode cX10_sew 77 = .ok (.invokevirtual 191, 3) := by decide +kernel
theorem dX10_sew_80 : decode cX10_sew 80 = .ok (.aload_n 0, 1) := by decide +kernel
theorem dX10_sew_81 : decode cX10_sew 81 = .ok (.getfield 19, 3) := by decide +kernel
theorem dX10_sew_84 : decode cX10_sew 84 = .ok (.getfield 100, 3) := by decide +kernel
theorem dX10_sew_87 : decode cX10_sew 87 = .ok (.getfield 167, 3) := by decide +kernel
theorem dX10_sew_90 : decode cX10_sew 90 = .ok (.iload_n 1, 1) := by decide +kernel
theorem dX10_sew_91 : decode cX10_sew 91 = .ok (.bipush 8, 2) := by decide +kernel
theorem dX10_sew_93 : decode cX10_sew 93 = .ok (.iload_n 2, 1) := by decide +kernel
theorem dX10_sew_94 : decode cX10_sew 94 = .ok (.iadd, 1) := by decide +kernel
theorem dX10_sew_95 : decode cX10_sew 95 = .ok (.iastore, 1) := by decide +kernel
theorem dX10_sew_96 : decode cX10_sew 96 = .ok (.aload_n 0, 1) := by decide +kernel
theorem dX10_sew_97 : decode cX10_sew 97 = .ok (.getfield 19, 3) := by decide +kernel
theorem dX10_sew_100 : decode cX10_sew 100 = .ok (.iload_n 1, 1) := by decide +kernel
theorem dX10_sew_101 : decode cX10_sew 101 = .ok (.invokevirtual 157, 3) := by decide +kernel
theorem dX10_sew_104 : decode cX10_sew 104 = .ok (.ireturn, 1) := by decide +kernel
theorem dX10_unpick_0 : decode cX10_unpick 0 = .ok (.aload_n 0, 1) := by decide +kernel
theorem dX10_unpick_1 : decode cX10_unpick 1 = .ok (.iconst 4, 1) := by decide +kernel
theorem dX10_unpick_2 : decode cX10_unpick 2 = .ok (.iload_n 1, 1) := by decide +kernel
theorem dX10_unpick_3 : decode cX10_unpick 3 = .ok (.invokevirtual 149, 3) := by decide +kernel
theorem dX10_unpick_6 : decode cX10_unpick 6 = .ok (.ifCond .ne 6, 3) := by decide +kernel
theorem dX10_unpick_9 : decode cX10_unpick 9 = .ok (.ldc 153, 2) := by decide +kernel
theorem dX10_unpick_11 : decode cX10_unpick 11 = .ok (.ireturn, 1) := by decide +kernel
theorem dX10_unpick_12 : decode cX10_unpick 12 = .ok (.aload_n 0, 1) := by decide +kernel
theorem dX10_unpick_13 : decode cX10_unpick 13 = .ok (.getfield 19, 3) := by decide +kernel
theorem dX10_unpick_16 : decode cX10_unpick 16 = .ok (.iload_n 1, 1) := by decide +kernel
theorem dX10_unpick_17 : decode cX10_unpick 17 = .ok (.invokevirtual 184, 3) := by decide +kernel
theorem dX10_unpick_20 : decode cX10_unpick 20 = .ok (.istore_n 2, 1) := by decide +kernel
theorem dX10_unpick_21 : decode cX10_unpick 21 = .ok (.iload_n 2, 1) := by decide +kernel
theorem dX10_unpick_22 : decode cX10_unpick 22 = .ok (.iconst (-1), 1) := by decide +kernel
theorem dX10_unpick_23 : decode cX10_unpick 23 = .ok (.if_icmp .ne 6, 3) := by decide +kernel
theorem dX10_unpick_26 : decode cX10_unpick 26 = .ok (.ldc 190, 2) := by decide +kernel
theorem dX10_unpick_28 : decode cX10_unpick 28 = .ok (.ireturn, 1) := by decide +kernel
theorem dX10_unpick_29 : decode cX10_unpick 29 = .ok (.aload_n 0, 1) := by decide +kernel
theorem dX10_unpick_30 : decode cX10_unpick 30 = .ok (.getfield 26, 3) := by decide +kernel
theorem dX10_unpick_33 : decode cX10_unpick 33 = .ok (.aload_n 0, 1) := by decide +kernel
theorem dX10_unpick_34 : decode cX10_unpick 34 = .ok (.getfield 19, 3) := by decide +kernel
theorem dX10_unpick_37 : decode cX10_unpick 37 = .ok (.getfield 100, 3) := by decide +kernel
theorem dX10_unpick_40 : decode cX10_unpick 40 = .ok (.invokevirtual 191, 3) := by decide +kernel
theorem dX10_unpick_43 : decode cX10_unpick 43 = .ok (.aload_n 0, 1) := by decide +kernel
theorem dX10_unpick_44 : decode cX10_unpick 44 = .ok (.getfield 19, 3) := by decide +kernel
theorem dX10_unpick_47 : decode cX10_unpick 47 = .ok (.getfield 100, 3) := by decide +kernel
theorem dX10_unpick_50 : decode cX10_unpick 50 = .ok (.getfield 167, 3) := by decide +kernel
theorem dX10_unpick_53 : decode cX10_unpick 53 = .ok (.iload_n 2, 1) := by decide +kernel
theorem dX10_unpick_54 : decode cX10_unpick 54 = .ok (.bipush 6, 2) := by decide +kernel
theorem dX10_unpick_56 : decode cX10_unpick 56 = .ok (.iastore, 1) := by decide +kernel
theorem dX10_unpick_57 : decode cX10_unpick 57 = .ok (.aload_n 0, 1) := by decide +kernel
theorem dX10_unpick_58 : decode cX10_unpick 58 = .ok (.getfield 19, 3) := by decide +kernel
theorem dX10_unpick_61 : decode cX10_unpick 61 = .ok (.getfield 100, 3) := by decide +kernel
theorem dX10_unpick_64 : decode cX10_unpick 64 = .ok (.dup, 1) := by decide +kernel
theorem dX10_unpick_65 : decode cX10_unpick 65 = .ok (.getfield 206, 3) := by decide +kernel
theorem dX10_unpick_68 : decode cX10_unpick 68 = .ok (.iconst 1, 1) := by decide +kernel
theorem dX10_unpick_69 : decode cX10_unpick 69 = .ok (.iload_n 2, 1) := by decide +kernel
theorem dX10_unpick_70 : decode cX10_unpick 70 = .ok (.ishl, 1) := by decide +kernel
theorem dX10_unpick_71 : decode cX10_unpick 71 = .ok (.ior, 1) := by decide +kernel
theorem dX10_unpick_72 : decode cX10_unpick 72 = .ok (.putfield 206, 3) := by decide +kernel
theorem dX10_unpick_75 : decode cX10_unpick 75 = .ok (.iload_n 2, 1) := by decide +kernel
theorem dX10_unpick_76 : decode cX10_unpick 76 = .ok (.ireturn, 1) := by decide +kernel
theorem dX10_pull_0 : decode cX10_pull 0 = .ok (.aload_n 0, 1) := by decide +kernel
theorem dX10_pull_1 : decode cX10_pull 1 = .ok (.iconst 1, 1) := by decide +kernel
theorem dX10_pull_2 : decode cX10_pull 2 = .ok (.iload_n 1, 1) := by decide +kernel
theorem dX10_pull_3 : decode cX10_pull 3 = .ok (.invokevirtual 149, 3) := by decide +kernel
theorem dX10_pull_6 : decode cX10_pull 6 = .ok (.ifCond .ne 6, 3) := by decide +kernel
theorem dX10_pull_9 : decode cX10_pull 9 = .ok (.ldc 153, 2) := by decide +kernel
theorem dX10_pull_11 : decode cX10_pull 11 = .ok (.ireturn, 1) := by decide +kernel
theorem dX10_pull_12 : decode cX10_pull 12 = .ok (.aload_n 0, 1) := by decide +kernel
theorem dX10_pull_13 : decode cX10_pull 13 = .ok (.getfield 19, 3) := by decide +kernel
theorem dX10_pull_16 : decode cX10_pull 16 = .ok (.iload_n 1, 1) := by decide +kernel
theorem dX10_pull_17 : decode cX10_pull 17 = .ok (.invokevirtual 163, 3) := by decide +kernel
theorem dX10_pull_20 : decode cX10_pull 20 = .ok (.ifCond .ne 20, 3) := by decide +kernel
theorem dX10_pull_23 : decode cX10_pull 23 = .ok (.aload_n 0, 1) := by decide +kernel
theorem dX10_pull_24 : decode cX10_pull 24 = .ok (.getfield 19, 3) := by decide +kernel
theorem dX10_pull_27 : decode cX10_pull 27 = .ok (.getfield 100, 3) := by decide +kernel
theorem dX10_pull_30 : decode cX10_pull 30 = .ok (.getfield 206, 3) := by decide +kernel
theorem dX10_pull_33 : decode cX10_pull 33 = .ok (.iload_n 1, 1) := by decide +kernel
theorem dX10_pull_34 : decode cX10_pull 34 = .ok (.invokestatic 195, 3) := by decide +kernel
theorem dX10_pull_37 : decode cX10_pull 37 = .ok (.ifCond .ne 6, 3) := by decide +kernel
theorem dX10_pull_40 : decode cX10_pull 40 = .ok (.ldc 190, 2) := by decide +kernel
theorem dX10_pull_42 : decode cX10_pull 42 = .ok (.ireturn, 1) := by decide +kernel
theorem dX10_pull_43 : decode cX10_pull 43 = .ok (.aload_n 0, 1) := by decide +kernel
theorem dX10_pull_44 : decode cX10_pull 44 = .ok (.getfield 26, 3) := by decide +kernel
theorem dX10_pull_47 : decode cX10_pull 47 = .ok (.aload_n 0, 1) := by decide +kernel
theorem dX10_pull_48 : decode cX10_pull 48 = .ok (.getfield 19, 3) := by decide +kernel
theorem dX10_pull_51 : decode cX10_pull 51 = .ok (.getfield 100, 3) := by decide +kernel
theorem dX10_pull_54 : decode cX10_pull 54 = .ok (.invokevirtual 191, 3) := by decide +kernel
theorem dX10_pull_57 : decode cX10_pull 57 = .ok (.aload_n 0, 1) := by decide +kernel
theorem dX10_pull_58 : decode cX10_pull 58 = .ok (.getfield 19, 3) := by decide +kernel
theorem dX10_pull_61 : decode cX10_pull 61 = .ok (.getfield 100, 3) := by decide +kernel
theorem dX10_pull_64 : decode cX10_pull 64 = .ok (.dup, 1) := by decide +kernel
theorem dX10_pull_65 : decode cX10_pull 65 = .ok (.getfield 206, 3) := by decide +kernel
theorem dX10_pull_68 : decode cX10_pull 68 = .ok (.iconst 1, 1) := by decide +kernel
theorem dX10_pull_69 : decode cX10_pull 69 = .ok (.iload_n 1, 1) := by decide +kernel
theorem dX10_pull_70 : decode cX10_pull 70 = .ok (.ishl, 1) := by decide +kernel
theorem dX10_pull_71 : decode cX10_pull 71 = .ok (.iconst (-1), 1) := by decide +kernel
theorem dX10_pull_72 : decode cX10_pull 72 = .ok (.ixor, 1) := by decide +kernel
theorem dX10_pull_73 : decode cX10_pull 73 = .ok (.iand, 1) := by decide +kernel
theorem dX10_pull_74 : decode cX10_pull 74 = .ok (.putfield 206, 3) := by decide +kernel
theorem dX10_pull_77 : decode cX10_pull 77 = .ok (.aload_n 0, 1) := by decide +kernel
theorem dX10_pull_78 : decode cX10_pull 78 = .ok (.getfield 19, 3) := by decide +kernel
theorem dX10_pull_81 : decode cX10_pull 81 = .ok (.iload_n 1, 1) := by decide +kernel
theorem dX10_pull_82 : decode cX10_pull 82 = .ok (.invokevirtual 157, 3) := by decide +kernel
theorem dX10_pull_85 : decode cX10_pull 85 = .ok (.ireturn, 1) := by decide +kernel
theorem dX10_up_0 : decode cX10_up 0 = .ok (.aload_n 0, 1) := by decide +kernel
theorem dX10_up_1 : decode cX10_up 1 = .ok (.iconst 2, 1) := by decide +kernel
theorem dX10_up_2 : decode cX10_up 2 = .ok (.iload_n 1, 1) := by decide +kernel
theorem dX10_up_3 : decode cX10_up 3 = .ok (.invokevirtual 149, 3) := by decide +kernel
theorem dX10_up_6 : decode cX10_up 6 = .ok (.ifCond .ne 6, 3) := by decide +kernel
theorem dX10_up_9 : decode cX10_up 9 = .ok (.ldc 153, 2) := by decide +kernel
theorem dX10_up_11 : decode cX10_up 11 = .ok (.ireturn, 1) := by decide +kernel
theorem dX10_up_12 : decode cX10_up 12 = .ok (.aload_n 0, 1) := by decide +kernel
theorem dX10_up_13 : decode cX10_up 13 = .ok (.getfield 19, 3) := by decide +kernel
theorem dX10_up_16 : decode cX10_up 16 = .ok (.iload_n 1, 1) := by decide +kernel
theorem dX10_up_17 : decode cX10_up 17 = .ok (.invokevirtual 178, 3) := by decide +kernel
theorem dX10_up_20 : decode cX10_up 20 = .ok (.istore_n 2, 1) := by decide +kernel
theorem dX10_up_21 : decode cX10_up 21 = .ok (.iload_n 2, 1) := by decide +kernel
theorem dX10_up_22 : decode cX10_up 22 = .ok (.ifCond .gt 6, 3) := by decide +kernel
theorem dX10_up_25 : decode cX10_up 25 = .ok (.ldc 190, 2) := by decide +kernel
theorem dX10_up_27 : decode cX10_up 27 = .ok (.ireturn, 1) := by decide +kernel
theorem dX10_up_28 : decode cX10_up 28 = .ok (.aload_n 0, 1) := by decide +kernel
theorem dX10_up_29 : decode cX10_up 29 = .ok (.getfield 26, 3) := by decide +kernel
theorem dX10_up_32 : decode cX10_up 32 = .ok (.aload_n 0, 1) := by decide +kernel
theorem dX10_up_33 : decode cX10_up 33 = .ok (.getfield 19, 3) := by decide +kernel
theorem dX10_up_36 : decode cX10_up 36 = .ok (.getfield 100, 3) := by decide +kernel
theorem dX10_up_39 : decode cX10_up 39 = .ok (.invokevirtual 191, 3) := by decide +kernel
theorem dX10_up_42 : decode cX10_up 42 = .ok (.aload_n 0, 1) := by decide +kernel
theorem dX10_up_43 : decode cX10_up 43 = .ok (.getfield 19, 3) := by decide +kernel
theorem dX10_up_46 : decode cX10_up 46 = .ok (.getfield 100, 3) := by decide +kernel
theorem dX10_up_49 : decode cX10_up 49 = .ok (.getfield 209, 3) := by decide +kernel
theorem dX10_up_52 : decode cX10_up 52 = .ok (.astore_n 3, 1) := by decide +kernel
theorem dX10_up_53 : decode cX10_up 53 = .ok (.aload_n 3, 1) := by decide +kernel
theorem dX10_up_54 : decode cX10_up 54 = .ok (.iload_n 2, 1) := by decide +kernel
theorem dX10_up_55 : decode cX10_up 55 = .ok (.aload_n 3, 1) := by decide +kernel
theorem dX10_up_56 : decode cX10_up 56 = .ok (.iload_n 2, 1) := by decide +kernel
theorem dX10_up_57 : decode cX10_up 57 = .ok (.iconst 1, 1) := by decide +kernel
theorem dX10_up_58 : decode cX10_up 58 = .ok (.isub, 1) := by decide +kernel
theorem dX10_up_59 : decode cX10_up 59 = .ok (.iaload, 1) := by decide +kernel
theorem dX10_up_60 : decode cX10_up 60 = .ok (.iastore, 1) := by decide +kernel
theorem dX10_up_61 : decode cX10_up 61 = .ok (.aload_n 3, 1) := by decide +kernel
theorem dX10_up_62 : decode cX10_up 62 = .ok (.iload_n 2, 1) := by decide +kernel
theorem dX10_up_63 : decode cX10_up 63 = .ok (.iconst 1, 1) := by decide +kernel
theorem dX10_up_64 : decode cX10_up 64 = .ok (.isub, 1) := by decide +kernel
theorem dX10_up_65 : decode cX10_up 65 = .ok (.iload_n 1, 1) := by decide +kernel
theorem dX10_up_66 : decode cX10_up 66 = .ok (.iastore, 1) := by decide +kernel
theorem dX10_up_67 : decode cX10_up 67 = .ok (.iload_n 2, 1) := by decide +kernel
theorem dX10_up_68 : decode cX10_up 68 = .ok (.iconst 1, 1) := by decide +kernel
theorem dX10_up_69 : decode cX10_up 69 = .ok (.isub, 1) := by decide +kernel
theorem dX10_up_70 : decode cX10_up 70 = .ok (.ireturn, 1) := by decide +kernel
theorem dX10_drift_0 : decode cX10_drift 0 = .ok (.iload_n 1, 1) := by decide +kernel
theorem dX10_drift_1 : decode cX10_drift 1 = .ok (.iconst 1, 1) := by decide +kernel
theorem dX10_drift_2 : decode cX10_drift 2 = .ok (.if_icmp .lt 9, 3) := by decide +kernel
theorem dX10_drift_5 : decode cX10_drift 5 = .ok (.iload_n 1, 1) := by decide +kernel
theorem dX10_drift_6 : decode cX10_drift 6 = .ok (.bipush 60, 2) := by decide +kernel
theorem dX10_drift_8 : decode cX10_drift 8 = .ok (.if_icmp .le 6, 3) := by decide +kernel
theorem dX10_drift_11 : decode cX10_drift 11 = .ok (.ldc 78, 2) := by decide +kernel
theorem dX10_drift_13 : decode cX10_drift 13 = .ok (.ireturn, 1) := by decide +kernel
theorem dX10_drift_14 : decode cX10_drift 14 = .ok (.aload_n 0, 1) := by decide +kernel
theorem dX10_drift_15 : decode cX10_drift 15 = .ok (.getfield 19, 3) := by decide +kernel
theorem dX10_drift_18 : decode cX10_drift 18 = .ok (.iconst 0, 1) := by decide +kernel
theorem dX10_drift_19 : decode cX10_drift 19 = .ok (.invokevirtual 116, 3) := by decide +kernel
theorem dX10_drift_22 : decode cX10_drift 22 = .ok (.ifCond .ne 6, 3) := by decide +kernel
theorem dX10_drift_25 : decode cX10_drift 25 = .ok (.ldc 190, 2) := by decide +kernel
theorem dX10_drift_27 : decode cX10_drift 27 = .ok (.ireturn, 1) := by decide +kernel
theorem dX10_drift_28 : decode cX10_drift 28 = .ok (.aload_n 0, 1) := by decide +kernel
theorem dX10_drift_29 : decode cX10_drift 29 = .ok (.getfield 26, 3) := by decide +kernel
theorem dX10_drift_32 : decode cX10_drift 32 = .ok (.aload_n 0, 1) := by decide +kernel
theorem dX10_drift_33 : decode cX10_drift 33 = .ok (.getfield 19, 3) := by decide +kernel
theorem dX10_drift_36 : decode cX10_drift 36 = .ok (.getfield 100, 3) := by decide +kernel
theorem dX10_drift_39 : decode cX10_drift 39 = .ok (.invokevirtual 191, 3) := by decide +kernel
theorem dX10_drift_42 : decode cX10_drift 42 = .ok (.aload_n 0, 1) := by decide +kernel
theorem dX10_drift_43 : decode cX10_drift 43 = .ok (.getfield 19, 3) := by decide +kernel
theorem dX10_drift_46 : decode cX10_drift 46 = .ok (.iconst 1, 1) := by decide +kernel
theorem dX10_drift_47 : decode cX10_drift 47 = .ok (.invokevirtual 116, 3) := by decide +kernel
theorem dX10_drift_50 : decode cX10_drift 50 = .ok (.ifCond .le 20, 3) := by decide +kernel
theorem dX10_drift_53 : decode cX10_drift 53 = .ok (.iconst 0, 1) := by decide +kernel
theorem dX10_drift_54 : decode cX10_drift 54 = .ok (.istore_n 2, 1) := by decide +kernel
theorem dX10_drift_55 : decode cX10_drift 55 = .ok (.iload_n 2, 1) := by decide +kernel
theorem dX10_drift_56 : decode cX10_drift 56 = .ok (.iload_n 1, 1) := by decide +kernel
theorem dX10_drift_57 : decode cX10_drift 57 = .ok (.if_icmp .ge 13, 3) := by decide +kernel
theorem dX10_drift_60 : decode cX10_drift 60 = .ok (.aload_n 0, 1) := by decide +kernel
theorem dX10_drift_61 : decode cX10_drift 61 = .ok (.invokevirtual 212, 3) := by decide +kernel
theorem dX10_drift_64 : decode cX10_drift 64 = .ok (.iinc 2 1, 3) := by decide +kernel
theorem dX10_drift_67 : decode cX10_drift 67 = .ok (.goto (-12), 3) := by decide +kernel
theorem dX10_drift_70 : decode cX10_drift 70 = .ok (.aload_n 0, 1) := by decide +kernel
theorem dX10_drift_71 : decode cX10_drift 71 = .ok (.getfield 19, 3) := by decide +kernel
theorem dX10_drift_74 : decode cX10_drift 74 = .ok (.getfield 100, 3) := by decide +kernel
theorem dX10_drift_77 : decode cX10_drift 77 = .ok (.getfield 130, 3) := by decide +kernel
theorem dX10_drift_80 : decode cX10_drift 80 = .ok (.ireturn, 1) := by decide +kernel
theorem dX10_undo_0 : decode cX10_undo 0 = .ok (.aload_n 0, 1) := by decide +kernel
theorem dX10_undo_1 : decode cX10_undo 1 = .ok (.getfield 26, 3) := by decide +kernel
theorem dX10_undo_4 : decode cX10_undo 4 = .ok (.getfield 148, 3) := by decide +kernel
theorem dX10_undo_7 : decode cX10_undo 7 = .ok (.ifCond .ne 6, 3) := by decide +kernel
theorem dX10_undo_10 : decode cX10_undo 10 = .ok (.ldc 190, 2) := by decide +kernel
theorem dX10_undo_12 : decode cX10_undo 12 = .ok (.ireturn, 1) := by decide +kernel
theorem dX10_undo_13 : decode cX10_undo 13 = .ok (.aload_n 0, 1) := by decide +kernel
theorem dX10_undo_14 : decode cX10_undo 14 = .ok (.getfield 26, 3) := by decide +kernel
theorem dX10_undo_17 : decode cX10_undo 17 = .ok (.aload_n 0, 1) := by decide +kernel
theorem dX10_undo_18 : decode cX10_undo 18 = .ok (.getfield 19, 3) := by decide +kernel
theorem dX10_undo_21 : decode cX10_undo 21 = .ok (.getfield 100, 3) := by decide +kernel
theorem dX10_undo_24 : decode cX10_undo 24 = .ok (.invokevirtual 215, 3) := by decide +kernel
theorem dX10_undo_27 : decode cX10_undo 27 = .ok (.aload_n 0, 1) := by decide +kernel
theorem dX10_undo_28 : decode cX10_undo 28 = .ok (.getfield 26, 3) := by decide +kernel
theorem dX10_undo_31 : decode cX10_undo 31 = .ok (.getfield 148, 3) := by decide +kernel
theorem dX10_undo_34 : decode cX10_undo 34 = .ok (.ireturn, 1) := by decide +kernel
theorem dX10_fit_0 : decode cX10_fit 0 = .ok (.iload_n 1, 1) := by decide +kernel
theorem dX10_fit_1 : decode cX10_fit 1 = .ok (.invokestatic 187, 3) := by decide +kernel
theorem dX10_fit_4 : decode cX10_fit 4 = .ok (.ifCond .ne 6, 3) := by decide +kernel
theorem dX10_fit_7 : decode cX10_fit 7 = .ok (.ldc 78, 2) := by decide +kernel
theorem dX10_fit_9 : decode cX10_fit 9 = .ok (.ireturn, 1) := by decide +kernel
theorem dX10_fit_10 : decode cX10_fit 10 = .ok (.aload_n 0, 1) := by decide +kernel
theorem dX10_fit_11 : decode cX10_fit 11 = .ok (.getfield 19, 3) := by decide +kernel
theorem dX10_fit_14 : decode cX10_fit 14 = .ok (.iload_n 1, 1) := by decide +kernel
theorem dX10_fit_15 : decode cX10_fit 15 = .ok (.invokevirtual 124, 3) := by decide +kernel
theorem dX10_fit_18 : decode cX10_fit 18 = .ok (.ifCond .ne 8, 3) := by decide +kernel
theorem dX10_fit_21 : decode cX10_fit 21 = .ok (.ldc 190, 2) := by decide +kernel
theorem dX10_fit_23 : decode cX10_fit 23 = .ok (.goto 12, 3) := by decide +kernel
theorem dX10_fit_26 : decode cX10_fit 26 = .ok (.aload_n 0, 1) := by decide +kernel
theorem dX10_fit_27 : decode cX10_fit 27 = .ok (.getfield 55, 3) := by decide +kernel
theorem dX10_fit_30 : decode cX10_fit 30 = .ok (.iload_n 1, 1) := by decide +kernel
theorem dX10_fit_31 : decode cX10_fit 31 = .ok (.iload_n 2, 1) := by decide +kernel
theorem dX10_fit_32 : decode cX10_fit 32 = .ok (.invokevirtual 218, 3) := by decide +kernel
theorem dX10_fit_35 : decode cX10_fit 35 = .ok (.ireturn, 1) := by decide +kernel
theorem dX10_tells_0 : decode cX10_tells 0 = .ok (.iload_n 1, 1) := by decide +kernel
theorem dX10_tells_1 : decode cX10_tells 1 = .ok (.invokestatic 187, 3) := by decide +kernel
theorem dX10_tells_4 : decode cX10_tells 4 = .ok (.ifCond .ne 6, 3) := by decide +kernel
theorem dX10_tells_7 : decode cX10_tells 7 = .ok (.ldc 78, 2) := by decide +kernel
theorem dX10_tells_9 : decode cX10_tells 9 = .ok (.ireturn, 1) := by decide +kernel
theorem dX10_tells_10 : decode cX10_tells 10 = .ok (.aload_n 0, 1) := by decide +kernel
theorem dX10_tells_11 : decode cX10_tells 11 = .ok (.getfield 19, 3) := by decide +kernel
theorem dX10_tells_14 : decode cX10_tells 14 = .ok (.iload_n 1, 1) := by decide +kernel
theorem dX10_tells_15 : decode cX10_tells 15 = .ok (.invokevirtual 124, 3) := by decide +kernel
theorem dX10_tells_18 : decode cX10_tells 18 = .ok (.ifCond .ne 8, 3) := by decide +kernel
theorem dX10_tells_21 : decode cX10_tells 21 = .ok (.ldc 190, 2) := by decide +kernel
theorem dX10_tells_23 : decode cX10_tells 23 = .ok (.goto 11, 3) := by decide +kernel
theorem dX10_tells_26 : decode cX10_tells 26 = .ok (.aload_n 0, 1) := by decide +kernel
theorem dX10_tells_27 : decode cX10_tells 27 = .ok (.getfield 55, 3) := by decide +kernel
theorem dX10_tells_30 : decode cX10_tells 30 = .ok (.iload_n 1, 1) := by decide +kernel
theorem dX10_tells_31 : decode cX10_tells 31 = .ok (.invokevirtual 221, 3) := by decide +kernel
theorem dX10_tells_34 : decode cX10_tells 34 = .ok (.ireturn, 1) := by decide +kernel
theorem dX10_teach_0 : decode cX10_teach 0 = .ok (.iload_n 1, 1) := by decide +kernel
theorem dX10_teach_1 : decode cX10_teach 1 = .ok (.ifCond .lt 20, 3) := by decide +kernel
theorem dX10_teach_4 : decode cX10_teach 4 = .ok (.iload_n 1, 1) := by decide +kernel
theorem dX10_teach_5 : decode cX10_teach 5 = .ok (.bipush 120, 2) := by decide +kernel
theorem dX10_teach_7 : decode cX10_teach 7 = .ok (.if_icmp .ge 14, 3) := by decide +kernel
theorem dX10_teach_10 : decode cX10_teach 10 = .ok (.aload_n 0, 1) := by decide +kernel
theorem dX10_teach_11 : decode cX10_teach 11 = .ok (.getfield 55, 3) := by decide +kernel
theorem dX10_teach_14 : decode cX10_teach 14 = .ok (.iload_n 1, 1) := by decide +kernel
theorem dX10_teach_15 : decode cX10_teach 15 = .ok (.invokevirtual 224, 3) := by decide +kernel
theorem dX10_teach_18 : decode cX10_teach 18 = .ok (.goto 5, 3) := by decide +kernel
theorem dX10_teach_21 : decode cX10_teach 21 = .ok (.ldc 78, 2) := by decide +kernel
theorem dX10_teach_23 : decode cX10_teach 23 = .ok (.ireturn, 1) := by decide +kernel
theorem dX10_match_0 : decode cX10_match 0 = .ok (.iload_n 1, 1) := by decide +kernel
theorem dX10_match_1 : decode cX10_match 1 = .ok (.iconst (-1), 1) := by decide +kernel
theorem dX10_match_2 : decode cX10_match 2 = .ok (.if_icmp .eq 21, 3) := by decide +kernel
theorem dX10_match_5 : decode cX10_match 5 = .ok (.iload_n 1, 1) := by decide +kernel
theorem dX10_match_6 : decode cX10_match 6 = .ok (.bipush (-2), 2) := by decide +kernel
theorem dX10_match_8 : decode cX10_match 8 = .ok (.if_icmp .eq 15, 3) := by decide +kernel
theorem dX10_match_11 : decode cX10_match 11 = .ok (.aload_n 0, 1) := by decide +kernel
theorem dX10_match_12 : decode cX10_match 12 = .ok (.iconst 4, 1) := by decide +kernel
theorem dX10_match_13 : decode cX10_match 13 = .ok (.iload_n 1, 1) := by decide +kernel
theorem dX10_match_14 : decode cX10_match 14 = .ok (.invokevirtual 149, 3) := by decide +kernel
theorem dX10_match_17 : decode cX10_match 17 = .ok (.ifCond .ne 6, 3) := by decide +kernel
theorem dX10_match_20 : decode cX10_match 20 = .ok (.ldc 153, 2) := by decide +kernel
theorem dX10_match_22 : decode cX10_match 22 = .ok (.ireturn, 1) := by decide +kernel
theorem dX10_match_23 : decode cX10_match 23 = .ok (.aload_n 0, 1) := by decide +kernel
theorem dX10_match_24 : decode cX10_match 24 = .ok (.getfield 62, 3) := by decide +kernel
theorem dX10_match_27 : decode cX10_match 27 = .ok (.invokevirtual 227, 3) := by decide +kernel
theorem dX10_match_30 : decode cX10_match 30 = .ok (.iload_n 1, 1) := by decide +kernel
theorem dX10_match_31 : decode cX10_match 31 = .ok (.iconst (-1), 1) := by decide +kernel
theorem dX10_match_32 : decode cX10_match 32 = .ok (.if_icmp .ne 11, 3) := by decide +kernel
theorem dX10_match_35 : decode cX10_match 35 = .ok (.aload_n 0, 1) := by decide +kernel
theorem dX10_match_36 : decode cX10_match 36 = .ok (.getfield 62, 3) := by decide +kernel
theorem dX10_match_39 : decode cX10_match 39 = .ok (.invokevirtual 230, 3) := by decide +kernel
theorem dX10_match_42 : decode cX10_match 42 = .ok (.ireturn, 1) := by decide +kernel
theorem dX10_match_43 : decode cX10_match 43 = .ok (.iload_n 1, 1) := by decide +kernel
theorem dX10_match_44 : decode cX10_match 44 = .ok (.bipush (-2), 2) := by decide +kernel
theorem dX10_match_46 : decode cX10_match 46 = .ok (.if_icmp .ne 13, 3) := by decide +kernel
theorem dX10_match_49 : decode cX10_match 49 = .ok (.aload_n 0, 1) := by decide +kernel
theorem dX10_match_50 : decode cX10_match 50 = .ok (.getfield 62, 3) := by decide +kernel
theorem dX10_match_53 : decode cX10_match 53 = .ok (.invokevirtual 233, 3) := by decide +kernel
theorem dX10_match_56 : decode cX10_match 56 = .ok (.goto 12, 3) := by decide +kernel
theorem dX10_match_59 : decode cX10_match 59 = .ok (.aload_n 0, 1) := by decide +kernel
theorem dX10_match_60 : decode cX10_match 60 = .ok (.getfield 62, 3) := by decide +kernel
theorem dX10_match_63 : decode cX10_match 63 = .ok (.getfield 236, 3) := by decide +kernel
theorem dX10_match_66 : decode cX10_match 66 = .ok (.iload_n 1, 1) := by decide +kernel
theorem dX10_match_67 : decode cX10_match 67 = .ok (.iaload, 1) := by decide +kernel
theorem dX10_match_68 : decode cX10_match 68 = .ok (.ireturn, 1) := by decide +kernel
theorem dX10_load_0 : decode cX10_load 0 = .ok (.iload_n 1, 1) := by decide +kernel
theorem dX10_load_1 : decode cX10_load 1 = .ok (.iconst 1, 1) := by decide +kernel
theorem dX10_load_2 : decode cX10_load 2 = .ok (.if_icmp .lt 18, 3) := by decide +kernel
theorem dX10_load_5 : decode cX10_load 5 = .ok (.iload_n 1, 1) := by decide +kernel
theorem dX10_load_6 : decode cX10_load 6 = .ok (.sipush 999, 3) := by decide +kernel
theorem dX10_load_9 : decode cX10_load 9 = .ok (.if_icmp .gt 11, 3) := by decide +kernel
theorem dX10_load_12 : decode cX10_load 12 = .ok (.aload_n 0, 1) := by decide +kernel
theorem dX10_load_13 : decode cX10_load 13 = .ok (.iload_n 1, 1) := by decide +kernel
theorem dX10_load_14 : decode cX10_load 14 = .ok (.invokevirtual 239, 3) := by decide +kernel
theorem dX10_load_17 : decode cX10_load 17 = .ok (.goto 5, 3) := by decide +kernel
theorem dX10_load_20 : decode cX10_load 20 = .ok (.ldc 78, 2) := by decide +kernel
theorem dX10_load_22 : decode cX10_load 22 = .ok (.ireturn, 1) := by decide +kernel
theorem dX10_slips_0 : decode cX10_slips 0 = .ok (.aload_n 0, 1) := by decide +kernel
theorem dX10_slips_1 : decode cX10_slips 1 = .ok (.iconst 1, 1) := by decide +kernel
theorem dX10_slips_2 : decode cX10_slips 2 = .ok (.iload_n 1, 1) := by decide +kernel
theorem dX10_slips_3 : decode cX10_slips 3 = .ok (.invokevirtual 149, 3) := by decide +kernel
theorem dX10_slips_6 : decode cX10_slips 6 = .ok (.ifCond .eq 12, 3) := by decide +kernel
theorem dX10_slips_9 : decode cX10_slips 9 = .ok (.aload_n 0, 1) := by decide +kernel
theorem dX10_slips_10 : decode cX10_slips 10 = .ok (.iconst 3, 1) := by decide +kernel
theorem dX10_slips_11 : decode cX10_slips 11 = .ok (.iload_n 2, 1) := by decide +kernel
theorem dX10_slips_12 : decode cX10_slips 12 = .ok (.invokevirtual 149, 3) := by decide +kernel
theorem dX10_slips_15 : decode cX10_slips 15 = .ok (.ifCond .ne 6, 3) := by decide +kernel
theorem dX10_slips_18 : decode cX10_slips 18 = .ok (.ldc 153, 2) := by decide +kernel
theorem dX10_slips_20 : decode cX10_slips 20 = .ok (.ireturn, 1) := by decide +kernel
theorem dX10_slips_21 : decode cX10_slips 21 = .ok (.aload_n 0, 1) := by decide +kernel
theorem dX10_slips_22 : decode cX10_slips 22 = .ok (.getfield 19, 3) := by decide +kernel
theorem dX10_slips_25 : decode cX10_slips 25 = .ok (.iload_n 1, 1) := by decide +kernel
theorem dX10_slips_26 : decode cX10_slips 26 = .ok (.iload_n 2, 1) := by decide +kernel
theorem dX10_slips_27 : decode cX10_slips 27 = .ok (.invokevirtual 242, 3) := by decide +kernel
theorem dX10_slips_30 : decode cX10_slips 30 = .ok (.ireturn, 1) := by decide +kernel
theorem dX10_undid_0 : decode cX10_undid 0 = .ok (.aload_n 0, 1) := by decide +kernel
theorem dX10_undid_1 : decode cX10_undid 1 = .ok (.iconst 1, 1) := by decide +kernel
theorem dX10_undid_2 : decode cX10_undid 2 = .ok (.iload_n 1, 1) := by decide +kernel
theorem dX10_undid_3 : decode cX10_undid 3 = .ok (.invokevirtual 149, 3) := by decide +kernel
theorem dX10_undid_6 : decode cX10_undid 6 = .ok (.ifCond .ne 6, 3) := by decide +kernel
theorem dX10_undid_9 : decode cX10_undid 9 = .ok (.ldc 153, 2) := by decide +kernel
theorem dX10_undid_11 : decode cX10_undid 11 = .ok (.ireturn, 1) := by decide +kernel
theorem dX10_undid_12 : decode cX10_undid 12 = .ok (.iload_n 2, 1) := by decide +kernel
theorem dX10_undid_13 : decode cX10_undid 13 = .ok (.ifCond .lt 8, 3) := by decide +kernel
theorem dX10_undid_16 : decode cX10_undid 16 = .ok (.iload_n 2, 1) := by decide +kernel
theorem dX10_undid_17 : decode cX10_undid 17 = .ok (.iconst 2, 1) := by decide +kernel
theorem dX10_undid_18 : decode cX10_undid 18 = .ok (.if_icmp .le 6, 3) := by decide +kernel
theorem dX10_undid_21 : decode cX10_undid 21 = .ok (.ldc 78, 2) := by decide +kernel
theorem dX10_undid_23 : decode cX10_undid 23 = .ok (.ireturn, 1) := by decide +kernel
theorem dX10_undid_24 : decode cX10_undid 24 = .ok (.aload_n 0, 1) := by decide +kernel
theorem dX10_undid_25 : decode cX10_undid 25 = .ok (.getfield 19, 3) := by decide +kernel
theorem dX10_undid_28 : decode cX10_undid 28 = .ok (.iload_n 1, 1) := by decide +kernel
theorem dX10_undid_29 : decode cX10_undid 29 = .ok (.invokevirtual 245, 3) := by decide +kernel
theorem dX10_undid_32 : decode cX10_undid 32 = .ok (.istore_n 3, 1) := by decide +kernel
theorem dX10_undid_33 : decode cX10_undid 33 = .ok (.iload_n 2, 1) := by decide +kernel
theorem dX10_undid_34 : decode cX10_undid 34 = .ok (.iconst 1, 1) := by decide +kernel
theorem dX10_undid_35 : decode cX10_undid 35 = .ok (.if_icmp .ne 5, 3) := by decide +kernel
theorem dX10_undid_38 : decode cX10_undid 38 = .ok (.iload_n 3, 1) := by decide +kernel
theorem dX10_undid_39 : decode cX10_undid 39 = .ok (.ireturn, 1) := by decide +kernel
theorem dX10_undid_40 : decode cX10_undid 40 = .ok (.aload_n 0, 1) := by decide +kernel
theorem dX10_undid_41 : decode cX10_undid 41 = .ok (.getfield 19, 3) := by decide +kernel
theorem dX10_undid_44 : decode cX10_undid 44 = .ok (.iload_n 1, 1) := by decide +kernel
theorem dX10_undid_45 : decode cX10_undid 45 = .ok (.iload_n 3, 1) := by decide +kernel
theorem dX10_undid_46 : decode cX10_undid 46 = .ok (.invokevirtual 248, 3) := by decide +kernel
theorem dX10_undid_49 : decode cX10_undid 49 = .ok (.istore 4, 2) := by decide +kernel
theorem dX10_undid_51 : decode cX10_undid 51 = .ok (.iload_n 2, 1) := by decide +kernel
theorem dX10_undid_52 : decode cX10_undid 52 = .ok (.ifCond .ne 6, 3) := by decide +kernel
theorem dX10_undid_55 : decode cX10_undid 55 = .ok (.iload 4, 2) := by decide +kernel
theorem dX10_undid_57 : decode cX10_undid 57 = .ok (.ireturn, 1) := by decide +kernel
theorem dX10_undid_58 : decode cX10_undid 58 = .ok (.iload 4, 2) := by decide +kernel
theorem dX10_undid_60 : decode cX10_undid 60 = .ok (.invokestatic 201, 3) := by decide +kernel
theorem dX10_undid_63 : decode cX10_undid 63 = .ok (.iconst 1, 1) := by decide +kernel
theorem dX10_undid_64 : decode cX10_undid 64 = .ok (.if_icmp .ne 11, 3) := by decide +kernel
theorem dX10_undid_67 : decode cX10_undid 67 = .ok (.iload 4, 2) := by decide +kernel
theorem dX10_undid_69 : decode cX10_undid 69 = .ok (.invokestatic 251, 3) := by decide +kernel
theorem dX10_undid_72 : decode cX10_undid 72 = .ok (.goto 4, 3) := by decide +kernel
theorem dX10_undid_75 : decode cX10_undid 75 = .ok (.iconst (-1), 1) := by decide +kernel
theorem dX10_undid_76 : decode cX10_undid 76 = .ok (.ireturn, 1) := by decide +kernel
theorem dX10_change_0 : decode cX10_change 0 = .ok (.aload_n 0, 1) := by decide +kernel
theorem dX10_change_1 : decode cX10_change 1 = .ok (.iconst 1, 1) := by decide +kernel
theorem dX10_change_2 : decode cX10_change 2 = .ok (.iload_n 1, 1) := by decide +kernel
theorem dX10_change_3 : decode cX10_change 3 = .ok (.invokevirtual 149, 3) := by decide +kernel
theorem dX10_change_6 : decode cX10_change 6 = .ok (.ifCond .eq 14, 3) := by decide +kernel
theorem dX10_change_9 : decode cX10_change 9 = .ok (.aload_n 0, 1) := by decide +kernel
theorem dX10_change_10 : decode cX10_change 10 = .ok (.getfield 19, 3) := by decide +kernel
theorem dX10_change_13 : decode cX10_change 13 = .ok (.iload_n 1, 1) := by decide +kernel
theorem dX10_change_14 : decode cX10_change 14 = .ok (.invokevirtual 254, 3) := by decide +kernel
theorem dX10_change_17 : decode cX10_change 17 = .ok (.goto 5, 3) := by decide +kernel
theorem dX10_change_20 : decode cX10_change 20 = .ok (.ldc 153, 2) := by decide +kernel
theorem dX10_change_22 : decode cX10_change 22 = .ok (.ireturn, 1) := by decide +kernel
theorem dX10_alike_0 : decode cX10_alike 0 = .ok (.aload_n 0, 1) := by decide +kernel
theorem dX10_alike_1 : decode cX10_alike 1 = .ok (.getfield 19, 3) := by decide +kernel
theorem dX10_alike_4 : decode cX10_alike 4 = .ok (.iconst 1, 1) := by decide +kernel
theorem dX10_alike_5 : decode cX10_alike 5 = .ok (.invokevirtual 116, 3) := by decide +kernel
theorem dX10_alike_8 : decode cX10_alike 8 = .ok (.istore_n 2, 1) := by decide +kernel
theorem dX10_alike_9 : decode cX10_alike 9 = .ok (.iconst 0, 1) := by decide +kernel
theorem dX10_alike_10 : decode cX10_alike 10 = .ok (.istore_n 3, 1) := by decide +kernel
theorem dX10_alike_11 : decode cX10_alike 11 = .ok (.iconst 0, 1) := by decide +kernel
theorem dX10_alike_12 : decode cX10_alike 12 = .ok (.istore 4, 2) := by decide +kernel
theorem dX10_alike_14 : decode cX10_alike 14 = .ok (.iload 4, 2) := by decide +kernel
theorem dX10_alike_16 : decode cX10_alike 16 = .ok (.iload_n 2, 1) := by decide +kernel
theorem dX10_alike_17 : decode cX10_alike 17 = .ok (.if_icmp .ge 58, 3) := by decide +kernel
theorem dX10_alike_20 : decode cX10_alike 20 = .ok (.iload 4, 2) := by decide +kernel
theorem dX10_alike_22 : decode cX10_alike 22 = .ok (.iconst 1, 1) := by decide +kernel
theorem dX10_alike_23 : decode cX10_alike 23 = .ok (.iadd, 1) := by decide +kernel
theorem dX10_alike_24 : decode cX10_alike 24 = .ok (.istore 5, 2) := by decide +kernel
theorem dX10_alike_26 : decode cX10_alike 26 = .ok (.iload 5, 2) := by decide +kernel
theorem dX10_alike_28 : decode cX10_alike 28 = .ok (.iload_n 2, 1) := by decide +kernel
theorem dX10_alike_29 : decode cX10_alike 29 = .ok (.if_icmp .ge 40, 3) := by decide +kernel
theorem dX10_alike_32 : decode cX10_alike 32 = .ok (.aload_n 0, 1) := by decide +kernel
theorem dX10_alike_33 : decode cX10_alike 33 = .ok (.getfield 19, 3) := by decide +kernel
theorem dX10_alike_36 : decode cX10_alike 36 = .ok (.iload 4, 2) := by decide +kernel
theorem dX10_alike_38 : decode cX10_alike 38 = .ok (.iload 5, 2) := by decide +kernel
theorem dX10_alike_40 : decode cX10_alike 40 = .ok (.invokevirtual 257, 3) := by decide +kernel
theorem dX10_alike_43 : decode cX10_alike 43 = .ok (.ifCond .eq 20, 3) := by decide +kernel
theorem dX10_alike_46 : decode cX10_alike 46 = .ok (.iload_n 3, 1) := by decide +kernel
theorem dX10_alike_47 : decode cX10_alike 47 = .ok (.iload_n 1, 1) := by decide +kernel
theorem dX10_alike_48 : decode cX10_alike 48 = .ok (.if_icmp .ne 12, 3) := by decide +kernel
theorem dX10_alike_51 : decode cX10_alike 51 = .ok (.bipush 100, 2) := by decide +kernel
theorem dX10_alike_53 : decode cX10_alike 53 = .ok (.iload 4, 2) := by decide +kernel
theorem dX10_alike_55 : decode cX10_alike 55 = .ok (.imul, 1) := by decide +kernel
theorem dX10_alike_56 : decode cX10_alike 56 = .ok (.iload 5, 2) := by decide +kernel
theorem dX10_alike_58 : decode cX10_alike 58 = .ok (.iadd, 1) := by decide +kernel
theorem dX10_alike_59 : decode cX10_alike 59 = .ok (.ireturn, 1) := by decide +kernel
theorem dX10_alike_60 : decode cX10_alike 60 = .ok (.iinc 3 1, 3) := by decide +kernel
theorem dX10_alike_63 : decode cX10_alike 63 = .ok (.iinc 5 1, 3) := by decide +kernel
theorem dX10_alike_66 : decode cX10_alike 66 = .ok (.goto (-40), 3) := by decide +kernel
theorem dX10_alike_69 : decode cX10_alike 69 = .ok (.iinc 4 1, 3) := by decide +kernel
theorem dX10_alike_72 : decode cX10_alike 72 = .ok (.goto (-58), 3) := by decide +kernel
theorem dX10_alike_75 : decode cX10_alike 75 = .ok (.iload_n 1, 1) := by decide +kernel
theorem dX10_alike_76 : decode cX10_alike 76 = .ok (.iconst (-1), 1) := by decide +kernel
theorem dX10_alike_77 : decode cX10_alike 77 = .ok (.if_icmp .ne 7, 3) := by decide +kernel
theorem dX10_alike_80 : decode cX10_alike 80 = .ok (.iload_n 3, 1) := by decide +kernel
theorem dX10_alike_81 : decode cX10_alike 81 = .ok (.goto 4, 3) := by decide +kernel
theorem dX10_alike_84 : decode cX10_alike 84 = .ok (.iconst (-1), 1) := by decide +kernel
theorem dX10_alike_85 : decode cX10_alike 85 = .ok (.ireturn, 1) := by decide +kernel
theorem dX10_child_0 : decode cX10_child 0 = .ok (.iload_n 1, 1) := by decide +kernel
theorem dX10_child_1 : decode cX10_child 1 = .ok (.ifCond .lt 9, 3) := by decide +kernel
theorem dX10_child_4 : decode cX10_child 4 = .ok (.iload_n 1, 1) := by decide +kernel
theorem dX10_child_5 : decode cX10_child 5 = .ok (.bipush 60, 2) := by decide +kernel
theorem dX10_child_7 : decode cX10_child 7 = .ok (.if_icmp .le 6, 3) := by decide +kernel
theorem dX10_child_10 : decode cX10_child 10 = .ok (.ldc 78, 2) := by decide +kernel
theorem dX10_child_12 : decode cX10_child 12 = .ok (.ireturn, 1) := by decide +kernel
theorem dX10_child_13 : decode cX10_child 13 = .ok (.ldc2_w 260, 3) := by decide +kernel
theorem dX10_child_16 : decode cX10_child 16 = .ok (.lstore_n 2, 1) := by decide +kernel
theorem dX10_child_17 : decode cX10_child 17 = .ok (.iconst 0, 1) := by decide +kernel
theorem dX10_child_18 : decode cX10_child 18 = .ok (.istore 4, 2) := by decide +kernel
theorem dX10_child_20 : decode cX10_child 20 = .ok (.iload 4, 2) := by decide +kernel
theorem dX10_child_22 : decode cX10_child 22 = .ok (.iload_n 1, 1) := by decide +kernel
theorem dX10_child_23 : decode cX10_child 23 = .ok (.if_icmp .ge 27, 3) := by decide +kernel
theorem dX10_child_26 : decode cX10_child 26 = .ok (.lload_n 2, 1) := by decide +kernel
theorem dX10_child_27 : decode cX10_child 27 = .ok (.bipush 100, 2) := by decide +kernel
theorem dX10_child_29 : decode cX10_child 29 = .ok (.aload_n 0, 1) := by decide +kernel
theorem dX10_child_30 : decode cX10_child 30 = .ok (.getfield 19, 3) := by decide +kernel
theorem dX10_child_33 : decode cX10_child 33 = .ok (.invokevirtual 120, 3) := by decide +kernel
theorem dX10_child_36 : decode cX10_child 36 = .ok (.isub, 1) := by decide +kernel
theorem dX10_child_37 : decode cX10_child 37 = .ok (.i2l, 1) := by decide +kernel
theorem dX10_child_38 : decode cX10_child 38 = .ok (.lmul, 1) := by decide +kernel
theorem dX10_child_39 : decode cX10_child 39 = .ok (.ldc2_w 262, 3) := by decide +kernel
theorem dX10_child_42 : decode cX10_child 42 = .ok (.ldiv, 1) := by decide +kernel
theorem dX10_child_43 : decode cX10_child 43 = .ok (.lstore_n 2, 1) := by decide +kernel
theorem dX10_child_44 : decode cX10_child 44 = .ok (.iinc 4 1, 3) := by decide +kernel
theorem dX10_child_47 : decode cX10_child 47 = .ok (.goto (-27), 3) := by decide +kernel
theorem dX10_child_50 : decode cX10_child 50 = .ok (.lload_n 2, 1) := by decide +kernel
theorem dX10_child_51 : decode cX10_child 51 = .ok (.l2i, 1) := by decide +kernel
theorem dX10_child_52 : decode cX10_child 52 = .ok (.ireturn, 1) := by decide +kernel
theorem dX10_write_0 : decode cX10_write 0 = .ok (.aload_n 0, 1) := by decide +kernel
theorem dX10_write_1 : decode cX10_write 1 = .ok (.iconst 1, 1) := by decide +kernel
theorem dX10_write_2 : decode cX10_write 2 = .ok (.iload_n 1, 1) := by decide +kernel
theorem dX10_write_3 : decode cX10_write 3 = .ok (.invokevirtual 149, 3) := by decide +kernel
theorem dX10_write_6 : decode cX10_write 6 = .ok (.ifCond .ne 6, 3) := by decide +kernel
theorem dX10_write_9 : decode cX10_write 9 = .ok (.ldc 153, 2) := by decide +kernel
theorem dX10_write_11 : decode cX10_write 11 = .ok (.ireturn, 1) := by decide +kernel
theorem dX10_write_12 : decode cX10_write 12 = .ok (.iload_n 2, 1) := by decide +kernel
theorem dX10_write_13 : decode cX10_write 13 = .ok (.iconst (-1), 1) := by decide +kernel
theorem dX10_write_14 : decode cX10_write 14 = .ok (.if_icmp .eq 13, 3) := by decide +kernel
theorem dX10_write_17 : decode cX10_write 17 = .ok (.iload_n 2, 1) := by decide +kernel
theorem dX10_write_18 : decode cX10_write 18 = .ok (.invokestatic 187, 3) := by decide +kernel
theorem dX10_write_21 : decode cX10_write 21 = .ok (.ifCond .ne 6, 3) := by decide +kernel
theorem dX10_write_24 : decode cX10_write 24 = .ok (.ldc 78, 2) := by decide +kernel
theorem dX10_write_26 : decode cX10_write 26 = .ok (.ireturn, 1) := by decide +kernel
theorem dX10_write_27 : decode cX10_write 27 = .ok (.aload_n 0, 1) := by decide +kernel
theorem dX10_write_28 : decode cX10_write 28 = .ok (.getfield 33, 3) := by decide +kernel
theorem dX10_write_31 : decode cX10_write 31 = .ok (.getfield 145, 3) := by decide +kernel
theorem dX10_write_34 : decode cX10_write 34 = .ok (.bipush 15, 2) := by decide +kernel
theorem dX10_write_36 : decode cX10_write 36 = .ok (.if_icmp .lt 6, 3) := by decide +kernel
theorem dX10_write_39 : decode cX10_write 39 = .ok (.ldc 82, 2) := by decide +kernel
theorem dX10_write_41 : decode cX10_write 41 = .ok (.ireturn, 1) := by decide +kernel
theorem dX10_write_42 : decode cX10_write 42 = .ok (.aload_n 0, 1) := by decide +kernel
theorem dX10_write_43 : decode cX10_write 43 = .ok (.getfield 33, 3) := by decide +kernel
theorem dX10_write_46 : decode cX10_write 46 = .ok (.iload_n 1, 1) := by decide +kernel
theorem dX10_write_47 : decode cX10_write 47 = .ok (.iload_n 2, 1) := by decide +kernel
theorem dX10_write_48 : decode cX10_write 48 = .ok (.invokevirtual 264, 3) := by decide +kernel
theorem dX10_write_51 : decode cX10_write 51 = .ok (.aload_n 0, 1) := by decide +kernel
theorem dX10_write_52 : decode cX10_write 52 = .ok (.getfield 33, 3) := by decide +kernel
theorem dX10_write_55 : decode cX10_write 55 = .ok (.getfield 145, 3) := by decide +kernel
theorem dX10_write_58 : decode cX10_write 58 = .ok (.ireturn, 1) := by decide +kernel
theorem dX10_tear_0 : decode cX10_tear 0 = .ok (.aload_n 0, 1) := by decide +kernel
theorem dX10_tear_1 : decode cX10_tear 1 = .ok (.getfield 33, 3) := by decide +kernel
theorem dX10_tear_4 : decode cX10_tear 4 = .ok (.getfield 145, 3) := by decide +kernel
theorem dX10_tear_7 : decode cX10_tear 7 = .ok (.istore_n 1, 1) := by decide +kernel
theorem dX10_tear_8 : decode cX10_tear 8 = .ok (.aload_n 0, 1) := by decide +kernel
theorem dX10_tear_9 : decode cX10_tear 9 = .ok (.getfield 33, 3) := by decide +kernel
theorem dX10_tear_12 : decode cX10_tear 12 = .ok (.invokevirtual 110, 3) := by decide +kernel
theorem dX10_tear_15 : decode cX10_tear 15 = .ok (.iload_n 1, 1) := by decide +kernel
theorem dX10_tear_16 : decode cX10_tear 16 = .ok (.ireturn, 1) := by decide +kernel
theorem dX10_judge_0 : decode cX10_judge 0 = .ok (.aload_n 0, 1) := by decide +kernel
theorem dX10_judge_1 : decode cX10_judge 1 = .ok (.getfield 33, 3) := by decide +kernel
theorem dX10_judge_4 : decode cX10_judge 4 = .ok (.aload_n 0, 1) := by decide +kernel
theorem dX10_judge_5 : decode cX10_judge 5 = .ok (.getfield 19, 3) := by decide +kernel
theorem dX10_judge_8 : decode cX10_judge 8 = .ok (.invokevirtual 267, 3) := by decide +kernel
theorem dX10_judge_11 : decode cX10_judge 11 = .ok (.ireturn, 1) := by decide +kernel
theorem dX10_seed_0 : decode cX10_seed 0 = .ok (.iload_n 1, 1) := by decide +kernel
theorem dX10_seed_1 : decode cX10_seed 1 = .ok (.ifCond .ge 6, 3) := by decide +kernel
theorem dX10_seed_4 : decode cX10_seed 4 = .ok (.ldc 78, 2) := by decide +kernel
theorem dX10_seed_6 : decode cX10_seed 6 = .ok (.ireturn, 1) := by decide +kernel
theorem dX10_seed_7 : decode cX10_seed 7 = .ok (.aload_n 0, 1) := by decide +kernel
theorem dX10_seed_8 : decode cX10_seed 8 = .ok (.getfield 40, 3) := by decide +kernel
theorem dX10_seed_11 : decode cX10_seed 11 = .ok (.getfield 271, 3) := by decide +kernel
theorem dX10_seed_14 : decode cX10_seed 14 = .ok (.istore_n 2, 1) := by decide +kernel
theorem dX10_seed_15 : decode cX10_seed 15 = .ok (.aload_n 0, 1) := by decide +kernel
theorem dX10_seed_16 : decode cX10_seed 16 = .ok (.getfield 40, 3) := by decide +kernel
theorem dX10_seed_19 : decode cX10_seed 19 = .ok (.iload_n 1, 1) := by decide +kernel
theorem dX10_seed_20 : decode cX10_seed 20 = .ok (.putfield 271, 3) := by decide +kernel
theorem dX10_seed_23 : decode cX10_seed 23 = .ok (.iload_n 2, 1) := by decide +kernel
theorem dX10_seed_24 : decode cX10_seed 24 = .ok (.ireturn, 1) := by decide +kernel
theorem dX10_keep_0 : decode cX10_keep 0 = .ok (.iload_n 1, 1) := by decide +kernel
theorem dX10_keep_1 : decode cX10_keep 1 = .ok (.ifCond .lt 8, 3) := by decide +kernel
theorem dX10_keep_4 : decode cX10_keep 4 = .ok (.iload_n 1, 1) := by decide +kernel
theorem dX10_keep_5 : decode cX10_keep 5 = .ok (.iconst 2, 1) := by decide +kernel
theorem dX10_keep_6 : decode cX10_keep 6 = .ok (.if_icmp .lt 6, 3) := by decide +kernel
theorem dX10_keep_9 : decode cX10_keep 9 = .ok (.ldc 153, 2) := by decide +kernel
theorem dX10_keep_11 : decode cX10_keep 11 = .ok (.ireturn, 1) := by decide +kernel
theorem dX10_keep_12 : decode cX10_keep 12 = .ok (.aload_n 0, 1) := by decide +kernel
theorem dX10_keep_13 : decode cX10_keep 13 = .ok (.getfield 46, 3) := by decide +kernel
theorem dX10_keep_16 : decode cX10_keep 16 = .ok (.iload_n 1, 1) := by decide +kernel
theorem dX10_keep_17 : decode cX10_keep 17 = .ok (.aaload, 1) := by decide +kernel
theorem dX10_keep_18 : decode cX10_keep 18 = .ok (.getfield 274, 3) := by decide +kernel
theorem dX10_keep_21 : decode cX10_keep 21 = .ok (.aload_n 0, 1) := by decide +kernel
theorem dX10_keep_22 : decode cX10_keep 22 = .ok (.getfield 19, 3) := by decide +kernel
theorem dX10_keep_25 : decode cX10_keep 25 = .ok (.getfield 100, 3) := by decide +kernel
theorem dX10_keep_28 : decode cX10_keep 28 = .ok (.invokevirtual 275, 3) := by decide +kernel
theorem dX10_keep_31 : decode cX10_keep 31 = .ok (.aload_n 0, 1) := by decide +kernel
theorem dX10_keep_32 : decode cX10_keep 32 = .ok (.getfield 46, 3) := by decide +kernel
theorem dX10_keep_35 : decode cX10_keep 35 = .ok (.iload_n 1, 1) := by decide +kernel
theorem dX10_keep_36 : decode cX10_keep 36 = .ok (.aaload, 1) := by decide +kernel
theorem dX10_keep_37 : decode cX10_keep 37 = .ok (.aload_n 0, 1) := by decide +kernel
theorem dX10_keep_38 : decode cX10_keep 38 = .ok (.getfield 40, 3) := by decide +kernel
theorem dX10_keep_41 : decode cX10_keep 41 = .ok (.getfield 271, 3) := by decide +kernel
theorem dX10_keep_44 : decode cX10_keep 44 = .ok (.putfield 278, 3) := by decide +kernel
theorem dX10_keep_47 : decode cX10_keep 47 = .ok (.aload_n 0, 1) := by decide +kernel
theorem dX10_keep_48 : decode cX10_keep 48 = .ok (.getfield 46, 3) := by decide +kernel
theorem dX10_keep_51 : decode cX10_keep 51 = .ok (.iload_n 1, 1) := by decide +kernel
theorem dX10_keep_52 : decode cX10_keep 52 = .ok (.aaload, 1) := by decide +kernel
theorem dX10_keep_53 : decode cX10_keep 53 = .ok (.iconst 1, 1) := by decide +kernel
theorem dX10_keep_54 : decode cX10_keep 54 = .ok (.putfield 112, 3) := by decide +kernel
theorem dX10_keep_57 : decode cX10_keep 57 = .ok (.aload_n 0, 1) := by decide +kernel
theorem dX10_keep_58 : decode cX10_keep 58 = .ok (.getfield 26, 3) := by decide +kernel
theorem dX10_keep_61 : decode cX10_keep 61 = .ok (.invokevirtual 111, 3) := by decide +kernel
theorem dX10_keep_64 : decode cX10_keep 64 = .ok (.iconst 1, 1) := by decide +kernel
theorem dX10_keep_65 : decode cX10_keep 65 = .ok (.ireturn, 1) := by decide +kernel
theorem dX10_goBack_0 : decode cX10_goBack 0 = .ok (.iload_n 1, 1) := by decide +kernel
theorem dX10_goBack_1 : decode cX10_goBack 1 = .ok (.ifCond .lt 8, 3) := by decide +kernel
theorem dX10_goBack_4 : decode cX10_goBack 4 = .ok (.iload_n 1, 1) := by decide +kernel
theorem dX10_goBack_5 : decode cX10_goBack 5 = .ok (.iconst 2, 1) := by decide +kernel
theorem dX10_goBack_6 : decode cX10_goBack 6 = .ok (.if_icmp .lt 6, 3) := by decide +kernel
theorem dX10_goBack_9 : decode cX10_goBack 9 = .ok (.ldc 153, 2) := by decide +kernel
theorem dX10_goBack_11 : decode cX10_goBack 11 = .ok (.ireturn, 1) := by decide +kernel
theorem dX10_goBack_12 : decode cX10_goBack 12 = .ok (.aload_n 0, 1) := by decide +kernel
theorem dX10_goBack_13 : decode cX10_goBack 13 = .ok (.getfield 46, 3) := by decide +kernel
theorem dX10_goBack_16 : decode cX10_goBack 16 = .ok (.iload_n 1, 1) := by decide +kernel
theorem dX10_goBack_17 : decode cX10_goBack 17 = .ok (.aaload, 1) := by decide +kernel
theorem dX10_goBack_18 : decode cX10_goBack 18 = .ok (.getfield 112, 3) := by decide +kernel
theorem dX10_goBack_21 : decode cX10_goBack 21 = .ok (.ifCond .ne 6, 3) := by decide +kernel
theorem dX10_goBack_24 : decode cX10_goBack 24 = .ok (.ldc 190, 2) := by decide +kernel
theorem dX10_goBack_26 : decode cX10_goBack 26 = .ok (.ireturn, 1) := by decide +kernel
theorem dX10_goBack_27 : decode cX10_goBack 27 = .ok (.aload_n 0, 1) := by decide +kernel
theorem dX10_goBack_28 : decode cX10_goBack 28 = .ok (.getfield 19, 3) := by decide +kernel
theorem dX10_goBack_31 : decode cX10_goBack 31 = .ok (.getfield 100, 3) := by decide +kernel
theorem dX10_goBack_34 : decode cX10_goBack 34 = .ok (.aload_n 0, 1) := by decide +kernel
theorem dX10_goBack_35 : decode cX10_goBack 35 = .ok (.getfield 46, 3) := by decide +kernel
theorem dX10_goBack_38 : decode cX10_goBack 38 = .ok (.iload_n 1, 1) := by decide +kernel
theorem dX10_goBack_39 : decode cX10_goBack 39 = .ok (.aaload, 1) := by decide +kernel
theorem dX10_goBack_40 : decode cX10_goBack 40 = .ok (.getfield 274, 3) := by decide +kernel
theorem dX10_goBack_43 : decode cX10_goBack 43 = .ok (.invokevirtual 275, 3) := by decide +kernel
theorem dX10_goBack_46 : decode cX10_goBack 46 = .ok (.aload_n 0, 1) := by decide +kernel
theorem dX10_goBack_47 : decode cX10_goBack 47 = .ok (.getfield 40, 3) := by decide +kernel
theorem dX10_goBack_50 : decode cX10_goBack 50 = .ok (.aload_n 0, 1) := by decide +kernel
theorem dX10_goBack_51 : decode cX10_goBack 51 = .ok (.getfield 46, 3) := by decide +kernel
theorem dX10_goBack_54 : decode cX10_goBack 54 = .ok (.iload_n 1, 1) := by decide +kernel
theorem dX10_goBack_55 : decode cX10_goBack 55 = .ok (.aaload, 1) := by decide +kernel
theorem dX10_goBack_56 : decode cX10_goBack 56 = .ok (.getfield 278, 3) := by decide +kernel
theorem dX10_goBack_59 : decode cX10_goBack 59 = .ok (.putfield 271, 3) := by decide +kernel
theorem dX10_goBack_62 : decode cX10_goBack 62 = .ok (.aload_n 0, 1) := by decide +kernel
theorem dX10_goBack_63 : decode cX10_goBack 63 = .ok (.getfield 26, 3) := by decide +kernel
theorem dX10_goBack_66 : decode cX10_goBack 66 = .ok (.invokevirtual 111, 3) := by decide +kernel
theorem dX10_goBack_69 : decode cX10_goBack 69 = .ok (.iconst 1, 1) := by decide +kernel
theorem dX10_goBack_70 : decode cX10_goBack 70 = .ok (.ireturn, 1) := by decide +kernel
theorem dX10_isThere_0 : decode cX10_isThere 0 = .ok (.iload_n 2, 1) := by decide +kernel
theorem dX10_isThere_1 : decode cX10_isThere 1 = .ok (.ifCond .lt 19, 3) := by decide +kernel
theorem dX10_isThere_4 : decode cX10_isThere 4 = .ok (.iload_n 2, 1) := by decide +kernel
theorem dX10_isThere_5 : decode cX10_isThere 5 = .ok (.aload_n 0, 1) := by decide +kernel
theorem dX10_isThere_6 : decode cX10_isThere 6 = .ok (.getfield 19, 3) := by decide +kernel
theorem dX10_isThere_9 : decode cX10_isThere 9 = .ok (.iload_n 1, 1) := by decide +kernel
theorem dX10_isThere_10 : decode cX10_isThere 10 = .ok (.invokevirtual 116, 3) := by decide +kernel
theorem dX10_isThere_13 : decode cX10_isThere 13 = .ok (.if_icmp .ge 7, 3) := by decide +kernel
theorem dX10_isThere_16 : decode cX10_isThere 16 = .ok (.iconst 1, 1) := by decide +kernel
theorem dX10_isThere_17 : decode cX10_isThere 17 = .ok (.goto 4, 3) := by decide +kernel
theorem dX10_isThere_20 : decode cX10_isThere 20 = .ok (.iconst 0, 1) := by decide +kernel
theorem dX10_isThere_21 : decode cX10_isThere 21 = .ok (.ireturn, 1) := by decide +kernel
theorem dX10_isHeap_0 : decode cX10_isHeap 0 = .ok (.iload_n 0, 1) := by decide +kernel
theorem dX10_isHeap_1 : decode cX10_isHeap 1 = .ok (.ifCond .lt 13, 3) := by decide +kernel
theorem dX10_isHeap_4 : decode cX10_isHeap 4 = .ok (.iload_n 0, 1) := by decide +kernel
theorem dX10_isHeap_5 : decode cX10_isHeap 5 = .ok (.bipush 6, 2) := by decide +kernel
theorem dX10_isHeap_7 : decode cX10_isHeap 7 = .ok (.if_icmp .ge 7, 3) := by decide +kernel
theorem dX10_isHeap_10 : decode cX10_isHeap 10 = .ok (.iconst 1, 1) := by decide +kernel
theorem dX10_isHeap_11 : decode cX10_isHeap 11 = .ok (.goto 4, 3) := by decide +kernel
theorem dX10_isHeap_14 : decode cX10_isHeap 14 = .ok (.iconst 0, 1) := by decide +kernel
theorem dX10_isHeap_15 : decode cX10_isHeap 15 = .ok (.ireturn, 1) := by decide +kernel
theorem dX10_has_0 : decode cX10_has 0 = .ok (.iload_n 0, 1) := by decide +kernel
theorem dX10_has_1 : decode cX10_has 1 = .ok (.iload_n 1, 1) := by decide +kernel
theorem dX10_has_2 : decode cX10_has 2 = .ok (.ishr, 1) := by decide +kernel
theorem dX10_has_3 : decode cX10_has 3 = .ok (.iconst 1, 1) := by decide +kernel
theorem dX10_has_4 : decode cX10_has 4 = .ok (.iand, 1) := by decide +kernel
theorem dX10_has_5 : decode cX10_has 5 = .ok (.iconst 1, 1) := by decide +kernel
theorem dX10_has_6 : decode cX10_has 6 = .ok (.if_icmp .ne 7, 3) := by decide +kernel
theorem dX10_has_9 : decode cX10_has 9 = .ok (.iconst 1, 1) := by decide +kernel
theorem dX10_has_10 : decode cX10_has 10 = .ok (.goto 4, 3) := by decide +kernel
theorem dX10_has_13 : decode cX10_has 13 = .ok (.iconst 0, 1) := by decide +kernel
theorem dX10_has_14 : decode cX10_has 14 = .ok (.ireturn, 1) := by decide +kernel
theorem dX10_driftOnce_0 : decode cX10_driftOnce 0 = .ok (.aload_n 0, 1) := by decide +kernel
theorem dX10_driftOnce_1 : decode cX10_driftOnce 1 = .ok (.getfield 40, 3) := by decide +kernel
theorem dX10_driftOnce_4 : decode cX10_driftOnce 4 = .ok (.aload_n 0, 1) := by decide +kernel
theorem dX10_driftOnce_5 : decode cX10_driftOnce 5 = .ok (.getfield 19, 3) := by decide +kernel
theorem dX10_driftOnce_8 : decode cX10_driftOnce 8 = .ok (.iconst 1, 1) := by decide +kernel
theorem dX10_driftOnce_9 : decode cX10_driftOnce 9 = .ok (.invokevirtual 116, 3) := by decide +kernel
theorem dX10_driftOnce_12 : decode cX10_driftOnce 12 = .ok (.invokevirtual 281, 3) := by decide +kernel
theorem dX10_driftOnce_15 : decode cX10_driftOnce 15 = .ok (.istore_n 1, 1) := by decide +kernel
theorem dX10_driftOnce_16 : decode cX10_driftOnce 16 = .ok (.aload_n 0, 1) := by decide +kernel
theorem dX10_driftOnce_17 : decode cX10_driftOnce 17 = .ok (.getfield 40, 3) := by decide +kernel
theorem dX10_driftOnce_20 : decode cX10_driftOnce 20 = .ok (.bipush 100, 2) := by decide +kernel
theorem dX10_driftOnce_22 : decode cX10_driftOnce 22 = .ok (.invokevirtual 281, 3) := by decide +kernel
theorem dX10_driftOnce_25 : decode cX10_driftOnce 25 = .ok (.istore_n 2, 1) := by decide +kernel
theorem dX10_driftOnce_26 : decode cX10_driftOnce 26 = .ok (.aload_n 0, 1) := by decide +kernel
theorem dX10_driftOnce_27 : decode cX10_driftOnce 27 = .ok (.getfield 19, 3) := by decide +kernel
theorem dX10_driftOnce_30 : decode cX10_driftOnce 30 = .ok (.getfield 100, 3) := by decide +kernel
theorem dX10_driftOnce_33 : decode cX10_driftOnce 33 = .ok (.getfield 167, 3) := by decide +kernel
theorem dX10_driftOnce_36 : decode cX10_driftOnce 36 = .ok (.iload_n 1, 1) := by decide +kernel
theorem dX10_driftOnce_37 : decode cX10_driftOnce 37 = .ok (.iaload, 1) := by decide +kernel
theorem dX10_driftOnce_38 : decode cX10_driftOnce 38 = .ok (.bipush 6, 2) := by decide +kernel
theorem dX10_driftOnce_40 : decode cX10_driftOnce 40 = .ok (.if_icmp .ne 49, 3) := by decide +kernel
theorem dX10_driftOnce_43 : decode cX10_driftOnce 43 = .ok (.iload_n 2, 1) := by decide +kernel
theorem dX10_driftOnce_44 : decode cX10_driftOnce 44 = .ok (.aload_n 0, 1) := by decide +kernel
theorem dX10_driftOnce_45 : decode cX10_driftOnce 45 = .ok (.getfield 19, 3) := by decide +kernel
theorem dX10_driftOnce_48 : decode cX10_driftOnce 48 = .ok (.invokevirtual 120, 3) := by decide +kernel
theorem dX10_driftOnce_51 : decode cX10_driftOnce 51 = .ok (.if_icmp .ge 27, 3) := by decide +kernel
theorem dX10_driftOnce_54 : decode cX10_driftOnce 54 = .ok (.aload_n 0, 1) := by decide +kernel
theorem dX10_driftOnce_55 : decode cX10_driftOnce 55 = .ok (.getfield 19, 3) := by decide +kernel
theorem dX10_driftOnce_58 : decode cX10_driftOnce 58 = .ok (.getfield 100, 3) := by decide +kernel
theorem dX10_driftOnce_61 : decode cX10_driftOnce 61 = .ok (.getfield 167, 3) := by decide +kernel
theorem dX10_driftOnce_64 : decode cX10_driftOnce 64 = .ok (.iload_n 1, 1) := by decide +kernel
theorem dX10_driftOnce_65 : decode cX10_driftOnce 65 = .ok (.aload_n 0, 1) := by decide +kernel
theorem dX10_driftOnce_66 : decode cX10_driftOnce 66 = .ok (.getfield 40, 3) := by decide +kernel
theorem dX10_driftOnce_69 : decode cX10_driftOnce 69 = .ok (.bipush 6, 2) := by decide +kernel
theorem dX10_driftOnce_71 : decode cX10_driftOnce 71 = .ok (.invokevirtual 281, 3) := by decide +kernel
theorem dX10_driftOnce_74 : decode cX10_driftOnce 74 = .ok (.iastore, 1) := by decide +kernel
theorem dX10_driftOnce_75 : decode cX10_driftOnce 75 = .ok (.goto 45, 3) := by decide +kernel
theorem dX10_driftOnce_78 : decode cX10_driftOnce 78 = .ok (.aload_n 0, 1) := by decide +kernel
theorem dX10_driftOnce_79 : decode cX10_driftOnce 79 = .ok (.getfield 19, 3) := by decide +kernel
theorem dX10_driftOnce_82 : decode cX10_driftOnce 82 = .ok (.iload_n 1, 1) := by decide +kernel
theorem dX10_driftOnce_83 : decode cX10_driftOnce 83 = .ok (.invokevirtual 198, 3) := by decide +kernel
theorem dX10_driftOnce_86 : decode cX10_driftOnce 86 = .ok (.goto 34, 3) := by decide +kernel
theorem dX10_driftOnce_89 : decode cX10_driftOnce 89 = .ok (.aload_n 0, 1) := by decide +kernel
theorem dX10_driftOnce_90 : decode cX10_driftOnce 90 = .ok (.getfield 19, 3) := by decide +kernel
theorem dX10_driftOnce_93 : decode cX10_driftOnce 93 = .ok (.iload_n 1, 1) := by decide +kernel
theorem dX10_driftOnce_94 : decode cX10_driftOnce 94 = .ok (.invokevirtual 163, 3) := by decide +kernel
theorem dX10_driftOnce_97 : decode cX10_driftOnce 97 = .ok (.ifCond .ne 23, 3) := by decide +kernel
theorem dX10_driftOnce_100 : decode cX10_driftOnce 100 = .ok (.iload_n 2, 1) := by decide +kernel
theorem dX10_driftOnce_101 : decode cX10_driftOnce 101 = .ok (.bipush 90, 2) := by decide +kernel
theorem dX10_driftOnce_103 : decode cX10_driftOnce 103 = .ok (.if_icmp .lt 17, 3) := by decide +kernel
theorem dX10_driftOnce_106 : decode cX10_driftOnce 106 = .ok (.aload_n 0, 1) := by decide +kernel
theorem dX10_driftOnce_107 : decode cX10_driftOnce 107 = .ok (.getfield 19, 3) := by decide +kernel
theorem dX10_driftOnce_110 : decode cX10_driftOnce 110 = .ok (.getfield 100, 3) := by decide +kernel
theorem dX10_driftOnce_113 : decode cX10_driftOnce 113 = .ok (.getfield 167, 3) := by decide +kernel
theorem dX10_driftOnce_116 : decode cX10_driftOnce 116 = .ok (.iload_n 1, 1) := by decide +kernel
theorem dX10_driftOnce_117 : decode cX10_driftOnce 117 = .ok (.bipush 6, 2) := by decide +kernel
theorem dX10_driftOnce_119 : decode cX10_driftOnce 119 = .ok (.iastore, 1) := by decide +kernel
theorem dX10_driftOnce_120 : decode cX10_driftOnce 120 = .ok (.return_, 1) := by decide +kernel
theorem dX10_fewestThatHold_0 : decode cX10_fewestThatHold 0 = .ok (.aload_n 0, 1) := by decide +kernel
theorem dX10_fewestThatHold_1 : decode cX10_fewestThatHold 1 = .ok (.getfield 19, 3) := by decide +kernel
theorem dX10_fewestThatHold_4 : decode cX10_fewestThatHold 4 = .ok (.bipush 6, 2) := by decide +kernel
theorem dX10_fewestThatHold_6 : decode cX10_fewestThatHold 6 = .ok (.invokevirtual 124, 3) := by decide +kernel
theorem dX10_fewestThatHold_9 : decode cX10_fewestThatHold 9 = .ok (.istore_n 2, 1) := by decide +kernel
theorem dX10_fewestThatHold_10 : decode cX10_fewestThatHold 10 = .ok (.iconst 1, 1) := by decide +kernel
theorem dX10_fewestThatHold_11 : decode cX10_fewestThatHold 11 = .ok (.istore_n 3, 1) := by decide +kernel
theorem dX10_fewestThatHold_12 : decode cX10_fewestThatHold 12 = .ok (.iload_n 3, 1) := by decide +kernel
theorem dX10_fewestThatHold_13 : decode cX10_fewestThatHold 13 = .ok (.bipush 12, 2) := by decide +kernel
theorem dX10_fewestThatHold_15 : decode cX10_fewestThatHold 15 = .ok (.if_icmp .gt 22, 3) := by decide +kernel
theorem dX10_fewestThatHold_18 : decode cX10_fewestThatHold 18 = .ok (.aload_n 0, 1) := by decide +kernel
theorem dX10_fewestThatHold_19 : decode cX10_fewestThatHold 19 = .ok (.getfield 19, 3) := by decide +kernel
theorem dX10_fewestThatHold_22 : decode cX10_fewestThatHold 22 = .ok (.iload_n 2, 1) := by decide +kernel
theorem dX10_fewestThatHold_23 : decode cX10_fewestThatHold 23 = .ok (.iload_n 3, 1) := by decide +kernel
theorem dX10_fewestThatHold_24 : decode cX10_fewestThatHold 24 = .ok (.invokevirtual 284, 3) := by decide +kernel
theorem dX10_fewestThatHold_27 : decode cX10_fewestThatHold 27 = .ok (.iload_n 1, 1) := by decide +kernel
theorem dX10_fewestThatHold_28 : decode cX10_fewestThatHold 28 = .ok (.if_icmp .ge 9, 3) := by decide +kernel
theorem dX10_fewestThatHold_31 : decode cX10_fewestThatHold 31 = .ok (.iinc 3 1, 3) := by decide +kernel
theorem dX10_fewestThatHold_34 : decode cX10_fewestThatHold 34 = .ok (.goto (-22), 3) := by decide +kernel
theorem dX10_fewestThatHold_37 : decode cX10_fewestThatHold 37 = .ok (.iload_n 3, 1) := by decide +kernel
theorem dX10_fewestThatHold_38 : decode cX10_fewestThatHold 38 = .ok (.bipush 12, 2) := by decide +kernel
theorem dX10_fewestThatHold_40 : decode cX10_fewestThatHold 40 = .ok (.if_icmp .le 5, 3) := by decide +kernel
theorem dX10_fewestThatHold_43 : decode cX10_fewestThatHold 43 = .ok (.iconst (-1), 1) := by decide +kernel
theorem dX10_fewestThatHold_44 : decode cX10_fewestThatHold 44 = .ok (.ireturn, 1) := by decide +kernel
theorem dX10_fewestThatHold_45 : decode cX10_fewestThatHold 45 = .ok (.iconst 0, 1) := by decide +kernel
theorem dX10_fewestThatHold_46 : decode cX10_fewestThatHold 46 = .ok (.istore 4, 2) := by decide +kernel
theorem dX10_fewestThatHold_48 : decode cX10_fewestThatHold 48 = .ok (.iload_n 1, 1) := by decide +kernel
theorem dX10_fewestThatHold_49 : decode cX10_fewestThatHold 49 = .ok (.istore 5, 2) := by decide +kernel
theorem dX10_fewestThatHold_51 : decode cX10_fewestThatHold 51 = .ok (.bipush 11, 2) := by decide +kernel
theorem dX10_fewestThatHold_53 : decode cX10_fewestThatHold 53 = .ok (.istore 6, 2) := by decide +kernel
theorem dX10_fewestThatHold_55 : decode cX10_fewestThatHold 55 = .ok (.iload 6, 2) := by decide +kernel
theorem dX10_fewestThatHold_57 : decode cX10_fewestThatHold 57 = .ok (.ifCond .lt 67, 3) := by decide +kernel
theorem dX10_fewestThatHold_60 : decode cX10_fewestThatHold 60 = .ok (.iload_n 2, 1) := by decide +kernel
theorem dX10_fewestThatHold_61 : decode cX10_fewestThatHold 61 = .ok (.iload 6, 2) := by decide +kernel
theorem dX10_fewestThatHold_63 : decode cX10_fewestThatHold 63 = .ok (.invokestatic 195, 3) := by decide +kernel
theorem dX10_fewestThatHold_66 : decode cX10_fewestThatHold 66 = .ok (.ifCond .eq 52, 3) := by decide +kernel
theorem dX10_fewestThatHold_69 : decode cX10_fewestThatHold 69 = .ok (.iload_n 2, 1) := by decide +kernel
theorem dX10_fewestThatHold_70 : decode cX10_fewestThatHold 70 = .ok (.iconst 1, 1) := by decide +kernel
theorem dX10_fewestThatHold_71 : decode cX10_fewestThatHold 71 = .ok (.iload 6, 2) := by decide +kernel
theorem dX10_fewestThatHold_73 : decode cX10_fewestThatHold 73 = .ok (.ishl, 1) := by decide +kernel
theorem dX10_fewestThatHold_74 : decode cX10_fewestThatHold 74 = .ok (.iconst (-1), 1) := by decide +kernel
theorem dX10_fewestThatHold_75 : decode cX10_fewestThatHold 75 = .ok (.ixor, 1) := by decide +kernel
theorem dX10_fewestThatHold_76 : decode cX10_fewestThatHold 76 = .ok (.iand, 1) := by decide +kernel
theorem dX10_fewestThatHold_77 : decode cX10_fewestThatHold 77 = .ok (.istore_n 2, 1) := by decide +kernel
theorem dX10_fewestThatHold_78 : decode cX10_fewestThatHold 78 = .ok (.aload_n 0, 1) := by decide +kernel
theorem dX10_fewestThatHold_79 : decode cX10_fewestThatHold 79 = .ok (.getfield 19, 3) := by decide +kernel
theorem dX10_fewestThatHold_82 : decode cX10_fewestThatHold 82 = .ok (.iload_n 2, 1) := by decide +kernel
theorem dX10_fewestThatHold_83 : decode cX10_fewestThatHold 83 = .ok (.iload_n 3, 1) := by decide +kernel
theorem dX10_fewestThatHold_84 : decode cX10_fewestThatHold 84 = .ok (.invokevirtual 284, 3) := by decide +kernel
theorem dX10_fewestThatHold_87 : decode cX10_fewestThatHold 87 = .ok (.iload 5, 2) := by decide +kernel
theorem dX10_fewestThatHold_89 : decode cX10_fewestThatHold 89 = .ok (.if_icmp .ge 29, 3) := by decide +kernel
theorem dX10_fewestThatHold_92 : decode cX10_fewestThatHold 92 = .ok (.iload 4, 2) := by decide +kernel
theorem dX10_fewestThatHold_94 : decode cX10_fewestThatHold 94 = .ok (.iconst 1, 1) := by decide +kernel
theorem dX10_fewestThatHold_95 : decode cX10_fewestThatHold 95 = .ok (.iload 6, 2) := by decide +kernel
theorem dX10_fewestThatHold_97 : decode cX10_fewestThatHold 97 = .ok (.ishl, 1) := by decide +kernel
theorem dX10_fewestThatHold_98 : decode cX10_fewestThatHold 98 = .ok (.ior, 1) := by decide +kernel
theorem dX10_fewestThatHold_99 : decode cX10_fewestThatHold 99 = .ok (.istore 4, 2) := by decide +kernel
theorem dX10_fewestThatHold_101 : decode cX10_fewestThatHold 101 = .ok (.iload 5, 2) := by decide +kernel
theorem dX10_fewestThatHold_103 : decode cX10_fewestThatHold 103 = .ok (.aload_n 0, 1) := by decide +kernel
theorem dX10_fewestThatHold_104 : decode cX10_fewestThatHold 104 = .ok (.getfield 19, 3) := by decide +kernel
theorem dX10_fewestThatHold_107 : decode cX10_fewestThatHold 107 = .ok (.iload 6, 2) := by decide +kernel
theorem dX10_fewestThatHold_109 : decode cX10_fewestThatHold 109 = .ok (.invokevirtual 157, 3) := by decide +kernel
theorem dX10_fewestThatHold_112 : decode cX10_fewestThatHold 112 = .ok (.isub, 1) := by decide +kernel
theorem dX10_fewestThatHold_113 : decode cX10_fewestThatHold 113 = .ok (.istore 5, 2) := by decide +kernel
theorem dX10_fewestThatHold_115 : decode cX10_fewestThatHold 115 = .ok (.iinc 3 (-1), 3) := by decide +kernel
theorem dX10_fewestThatHold_118 : decode cX10_fewestThatHold 118 = .ok (.iinc 6 (-1), 3) := by decide +kernel
theorem dX10_fewestThatHold_121 : decode cX10_fewestThatHold 121 = .ok (.goto (-66), 3) := by decide +kernel
theorem dX10_fewestThatHold_124 : decode cX10_fewestThatHold 124 = .ok (.iload 4, 2) := by decide +kernel
theorem dX10_fewestThatHold_126 : decode cX10_fewestThatHold 126 = .ok (.ireturn, 1) := by decide +kernel
theorem dX11_init_0 : decode cX11_init 0 = .ok (.aload_n 0, 1) := by decide +kernel
theorem dX11_init_1 : decode cX11_init 1 = .ok (.invokespecial 1, 3) := by decide +kernel
theorem dX11_init_4 : decode cX11_init 4 = .ok (.aload_n 0, 1) := by decide +kernel
theorem dX11_init_5 : decode cX11_init 5 = .ok (.sipush 240, 3) := by decide +kernel
theorem dX11_init_8 : decode cX11_init 8 = .ok (.newarray .byte, 2) := by decide +kernel
theorem dX11_init_10 : decode cX11_init 10 = .ok (.putfield 7, 3) := by decide +kernel
theorem dX11_init_13 : decode cX11_init 13 = .ok (.aload_n 0, 1) := by decide +kernel
theorem dX11_init_14 : decode cX11_init 14 = .ok (.bipush 48, 2) := by decide +kernel
theorem dX11_init_16 : decode cX11_init 16 = .ok (.newarray .int, 2) := by decide +kernel
theorem dX11_init_18 : decode cX11_init 18 = .ok (.putfield 13, 3) := by decide +kernel
theorem dX11_init_21 : decode cX11_init 21 = .ok (.aload_n 0, 1) := by decide +kernel
theorem dX11_init_22 : decode cX11_init 22 = .ok (.bipush 24, 2) := by decide +kernel
theorem dX11_init_24 : decode cX11_init 24 = .ok (.newarray .int, 2) := by decide +kernel
theorem dX11_init_26 : decode cX11_init 26 = .ok (.putfield 17, 3) := by decide +kernel
theorem dX11_init_29 : decode cX11_init 29 = .ok (.aload_n 0, 1) := by decide +kernel
theorem dX11_init_30 : decode cX11_init 30 = .ok (.bipush 20, 2) := by decide +kernel
theorem dX11_init_32 : decode cX11_init 32 = .ok (.newarray .int, 2) := by decide +kernel
theorem dX11_init_34 : decode cX11_init 34 = .ok (.putfield 20, 3) := by decide +kernel
theorem dX11_init_37 : decode cX11_init 37 = .ok (.aload_n 0, 1) := by decide +kernel
theorem dX11_init_38 : decode cX11_init 38 = .ok (.iconst 5, 1) := by decide +kernel
theorem dX11_init_39 : decode cX11_init 39 = .ok (.newarray .int, 2) := by decide +kernel
theorem dX11_init_41 : decode cX11_init 41 = .ok (.putfield 23, 3) := by decide +kernel
theorem dX11_init_44 : decode cX11_init 44 = .ok (.aload_n 0, 1) := by decide +kernel
theorem dX11_init_45 : decode cX11_init 45 = .ok (.bipush 48, 2) := by decide +kernel
theorem dX11_init_47 : decode cX11_init 47 = .ok (.newarray .int, 2) := by decide +kernel
theorem dX11_init_49 : decode cX11_init 49 = .ok (.putfield 26, 3) := by decide +kernel
theorem dX11_init_52 : decode cX11_init 52 = .ok (.aload_n 0, 1) := by decide +kernel
theorem dX11_init_53 : decode cX11_init 53 = .ok (.bipush 24, 2) := by decide +kernel
theorem dX11_init_55 : decode cX11_init 55 = .ok (.newarray .int, 2) := by decide +kernel
theorem dX11_init_57 : decode cX11_init 57 = .ok (.putfield 29, 3) := by decide +kernel
theorem dX11_init_60 : decode cX11_init 60 = .ok (.aload_n 0, 1) := by decide +kernel
theorem dX11_init_61 : decode cX11_init 61 = .ok (.bipush 20, 2) := by decide +kernel
theorem dX11_init_63 : decode cX11_init 63 = .ok (.newarray .int, 2) := by decide +kernel
theorem dX11_init_65 : decode cX11_init 65 = .ok (.putfield 32, 3) := by decide +kernel
theorem dX11_init_68 : decode cX11_init 68 = .ok (.aload_n 0, 1) := by decide +kernel
theorem dX11_init_69 : decode cX11_init 69 = .ok (.iconst 5, 1) := by decide +kernel
theorem dX11_init_70 : decode cX11_init 70 = .ok (.newarray .int, 2) := by decide +kernel
theorem dX11_init_72 : decode cX11_init 72 = .ok (.putfield 35, 3) := by decide +kernel
theorem dX11_init_75 : decode cX11_init 75 = .ok (.aload_n 0, 1) := by decide +kernel
theorem dX11_init_76 : decode cX11_init 76 = .ok (.bipush 31, 2) := by decide +kernel
theorem dX11_init_78 : decode cX11_init 78 = .ok (.newarray .int, 2) := by decide +kernel
theorem dX11_init_80 : decode cX11_init 80 = .ok (.putfield 38, 3) := by decide +kernel
theorem dX11_init_83 : decode cX11_init 83 = .ok (.aload_n 0, 1) := by decide +kernel
theorem dX11_init_84 : decode cX11_init 84 = .ok (.sipush 496, 3) := by decide +kernel
theorem dX11_init_87 : decode cX11_init 87 = .ok (.newarray .int, 2) := by decide +kernel
theorem dX11_init_89 : decode cX11_init 89 = .ok (.putfield 41, 3) := by decide +kernel
theorem dX11_init_92 : decode cX11_init 92 = .ok (.aload_n 0, 1) := by decide +kernel
theorem dX11_init_93 : decode cX11_init 93 = .ok (.bipush 62, 2) := by decide +kernel
theorem dX11_init_95 : decode cX11_init 95 = .ok (.newarray .int, 2) := by decide +kernel
theorem dX11_init_97 : decode cX11_init 97 = .ok (.putfield 44, 3) := by decide +kernel
theorem dX11_init_100 : decode cX11_init 100 = .ok (.aload_n 0, 1) := by decide +kernel
theorem dX11_init_101 : decode cX11_init 101 = .ok (.iconst 2, 1) := by decide +kernel
theorem dX11_init_102 : decode cX11_init 102 = .ok (.newarray .int, 2) := by decide +kernel
theorem dX11_init_104 : decode cX11_init 104 = .ok (.putfield 47, 3) := by decide +kernel
theorem dX11_init_107 : decode cX11_init 107 = .ok (.aload_n 0, 1) := by decide +kernel
theorem dX11_init_108 : decode cX11_init 108 = .ok (.iconst 2, 1) := by decide +kernel
theorem dX11_init_109 : decode cX11_init 109 = .ok (.newarray .boolean, 2) := by decide +kernel
theorem dX11_init_111 : decode cX11_init 111 = .ok (.putfield 50, 3) := by decide +kernel
theorem dX11_init_114 : decode cX11_init 114 = .ok (.aload_n 0, 1) := by decide +kernel
theorem dX11_init_115 : decode cX11_init 115 = .ok (.bipush 120, 2) := by decide +kernel
theorem dX11_init_117 : decode cX11_init 117 = .ok (.newarray .boolean, 2) := by decide +kernel
theorem dX11_init_119 : decode cX11_init 119 = .ok (.putfield 54, 3) := by decide +kernel
theorem dX11_init_122 : decode cX11_init 122 = .ok (.aload_n 0, 1) := by decide +kernel
theorem dX11_init_123 : decode cX11_init 123 = .ok (.bipush 120, 2) := by decide +kernel
theorem dX11_init_125 : decode cX11_init 125 = .ok (.newarray .int, 2) := by decide +kernel
theorem dX11_init_127 : decode cX11_init 127 = .ok (.putfield 57, 3) := by decide +kernel
theorem dX11_init_130 : decode cX11_init 130 = .ok (.aload_n 0, 1) := by decide +kernel
theorem dX11_init_131 : decode cX11_init 131 = .ok (.sipush 24576, 3) := by decide +kernel
theorem dX11_init_134 : decode cX11_init 134 = .ok (.newarray .int, 2) := by decide +kernel
theorem dX11_init_136 : decode cX11_init 136 = .ok (.putfield 60, 3) := by decide +kernel
theorem dX11_init_139 : decode cX11_init 139 = .ok (.aload_n 0, 1) := by decide +kernel
theorem dX11_init_140 : decode cX11_init 140 = .ok (.bipush 15, 2) := by decide +kernel
theorem dX11_init_142 : decode cX11_init 142 = .ok (.newarray .int, 2) := by decide +kernel
theorem dX11_init_144 : decode cX11_init 144 = .ok (.putfield 63, 3) := by decide +kernel
theorem dX11_init_147 : decode cX11_init 147 = .ok (.aload_n 0, 1) := by decide +kernel
theorem dX11_init_148 : decode cX11_init 148 = .ok (.bipush 15, 2) := by decide +kernel
theorem dX11_init_150 : decode cX11_init 150 = .ok (.newarray .int, 2) := by decide +kernel
theorem dX11_init_152 : decode cX11_init 152 = .ok (.putfield 66, 3) := by decide +kernel
theorem dX11_init_155 : decode cX11_init 155 = .ok (.aload_n 0, 1) := by decide +kernel
theorem dX11_init_156 : decode cX11_init 156 = .ok (.iconst (-1), 1) := by decide +kernel
theorem dX11_init_157 : decode cX11_init 157 = .ok (.putfield 69, 3) := by decide +kernel
theorem dX11_init_160 : decode cX11_init 160 = .ok (.return_, 1) := by decide +kernel
theorem dX11_in_0 : decode cX11_in 0 = .ok (.iload_n 0, 1) := by decide +kernel
theorem dX11_in_1 : decode cX11_in 1 = .ok (.iload_n 1, 1) := by decide +kernel
theorem dX11_in_2 : decode cX11_in 2 = .ok (.if_icmp .lt 12, 3) := by decide +kernel
theorem dX11_in_5 : decode cX11_in 5 = .ok (.iload_n 0, 1) := by decide +kernel
theorem dX11_in_6 : decode cX11_in 6 = .ok (.iload_n 2, 1) := by decide +kernel
theorem dX11_in_7 : decode cX11_in 7 = .ok (.if_icmp .gt 7, 3) := by decide +kernel
theorem dX11_in_10 : decode cX11_in 10 = .ok (.iconst 1, 1) := by decide +kernel
theorem dX11_in_11 : decode cX11_in 11 = .ok (.goto 4, 3) := by decide +kernel
theorem dX11_in_14 : decode cX11_in 14 = .ok (.iconst 0, 1) := by decide +kernel
theorem dX11_in_15 : decode cX11_in 15 = .ok (.ireturn, 1) := by decide +kernel
theorem dX11_has_0 : decode cX11_has 0 = .ok (.iload_n 0, 1) := by decide +kernel
theorem dX11_has_1 : decode cX11_has 1 = .ok (.iload_n 1, 1) := by decide +kernel
theorem dX11_has_2 : decode cX11_has 2 = .ok (.ishr, 1) := by decide +kernel
theorem dX11_has_3 : decode cX11_has 3 = .ok (.iconst 1, 1) := by decide +kernel
theorem dX11_has_4 : decode cX11_has 4 = .ok (.iand, 1) := by decide +kernel
theorem dX11_has_5 : decode cX11_has 5 = .ok (.iconst 1, 1) := by decide +kernel
theorem dX11_has_6 : decode cX11_has 6 = .ok (.if_icmp .ne 7, 3) := by decide +kernel
theorem dX11_has_9 : decode cX11_has 9 = .ok (.iconst 1, 1) := by decide +kernel
theorem dX11_has_10 : decode cX11_has 10 = .ok (.goto 4, 3) := by decide +kernel
theorem dX11_has_13 : decode cX11_has 13 = .ok (.iconst 0, 1) := by decide +kernel
theorem dX11_has_14 : decode cX11_has 14 = .ok (.ireturn, 1) := by decide +kernel
theorem dX11_feed_0 : decode cX11_feed 0 = .ok (.iload_n 1, 1) := by decide +kernel
theorem dX11_feed_1 : decode cX11_feed 1 = .ok (.iconst 0, 1) := by decide +kernel
theorem dX11_feed_2 : decode cX11_feed 2 = .ok (.sipush 255, 3) := by decide +kernel
theorem dX11_feed_5 : decode cX11_feed 5 = .ok (.invokestatic 73, 3) := by decide +kernel
theorem dX11_feed_8 : decode cX11_feed 8 = .ok (.ifCond .ne 6, 3) := by decide +kernel
theorem dX11_feed_11 : decode cX11_feed 11 = .ok (.ldc 77, 2) := by decide +kernel
theorem dX11_feed_13 : decode cX11_feed 13 = .ok (.ireturn, 1) := by decide +kernel
theorem dX11_feed_14 : decode cX11_feed 14 = .ok (.aload_n 0, 1) := by decide +kernel
theorem dX11_feed_15 : decode cX11_feed 15 = .ok (.getfield 78, 3) := by decide +kernel
theorem dX11_feed_18 : decode cX11_feed 18 = .ok (.sipush 240, 3) := by decide +kernel
theorem dX11_feed_21 : decode cX11_feed 21 = .ok (.if_icmp .ne 6, 3) := by decide +kernel
theorem dX11_feed_24 : decode cX11_feed 24 = .ok (.ldc 81, 2) := by decide +kernel
theorem dX11_feed_26 : decode cX11_feed 26 = .ok (.ireturn, 1) := by decide +kernel
theorem dX11_feed_27 : decode cX11_feed 27 = .ok (.aload_n 0, 1) := by decide +kernel
theorem dX11_feed_28 : decode cX11_feed 28 = .ok (.getfield 7, 3) := by decide +kernel
theorem dX11_feed_31 : decode cX11_feed 31 = .ok (.aload_n 0, 1) := by decide +kernel
theorem dX11_feed_32 : decode cX11_feed 32 = .ok (.getfield 78, 3) := by decide +kernel
theorem dX11_feed_35 : decode cX11_feed 35 = .ok (.iload_n 1, 1) := by decide +kernel
theorem dX11_feed_36 : decode cX11_feed 36 = .ok (.i2b, 1) := by decide +kernel
theorem dX11_feed_37 : decode cX11_feed 37 = .ok (.bastore, 1) := by decide +kernel
theorem dX11_feed_38 : decode cX11_feed 38 = .ok (.aload_n 0, 1) := by decide +kernel
theorem dX11_feed_39 : decode cX11_feed 39 = .ok (.dup, 1) := by decide +kernel
theorem dX11_feed_40 : decode cX11_feed 40 = .ok (.getfield 78, 3) := by decide +kernel
theorem dX11_feed_43 : decode cX11_feed 43 = .ok (.iconst 1, 1) := by decide +kernel
theorem dX11_feed_44 : decode cX11_feed 44 = .ok (.iadd, 1) := by decide +kernel
theorem dX11_feed_45 : decode cX11_feed 45 = .ok (.putfield 78, 3) := by decide +kernel
theorem dX11_feed_48 : decode cX11_feed 48 = .ok (.aload_n 0, 1) := by decide +kernel
theorem dX11_feed_49 : decode cX11_feed 49 = .ok (.getfield 78, 3) := by decide +kernel
theorem dX11_feed_52 : decode cX11_feed 52 = .ok (.ireturn, 1) := by decide +kernel
theorem dX11_here_0 : decode cX11_here 0 = .ok (.aload_n 0, 1) := by decide +kernel
theorem dX11_here_1 : decode cX11_here 1 = .ok (.getfield 82, 3) := by decide +kernel
theorem dX11_here_4 : decode cX11_here 4 = .ok (.aload_n 0, 1) := by decide +kernel
theorem dX11_here_5 : decode cX11_here 5 = .ok (.getfield 78, 3) := by decide +kernel
theorem dX11_here_8 : decode cX11_here 8 = .ok (.if_icmp .ge 19, 3) := by decide +kernel
theorem dX11_here_11 : decode cX11_here 11 = .ok (.aload_n 0, 1) := by decide +kernel
theorem dX11_here_12 : decode cX11_here 12 = .ok (.getfield 7, 3) := by decide +kernel
theorem dX11_here_15 : decode cX11_here 15 = .ok (.aload_n 0, 1) := by decide +kernel
theorem dX11_here_16 : decode cX11_here 16 = .ok (.getfield 82, 3) := by decide +kernel
theorem dX11_here_19 : decode cX11_here 19 = .ok (.baload, 1) := by decide +kernel
theorem dX11_here_20 : decode cX11_here 20 = .ok (.sipush 255, 3) := by decide +kernel
theorem dX11_here_23 : decode cX11_here 23 = .ok (.iand, 1) := by decide +kernel
theorem dX11_here_24 : decode cX11_here 24 = .ok (.goto 4, 3) := by decide +kernel
theorem dX11_here_27 : decode cX11_here 27 = .ok (.iconst (-1), 1) := by decide +kernel
theorem dX11_here_28 : decode cX11_here 28 = .ok (.ireturn, 1) := by decide +kernel
theorem dX11_skip_0 : decode cX11_skip 0 = .ok (.aload_n 0, 1) := by decide +kernel
theorem dX11_skip_1 : decode cX11_skip 1 = .ok (.invokevirtual 85, 3) := by decide +kernel
theorem dX11_skip_4 : decode cX11_skip 4 = .ok (.bipush 32, 2) := by decide +kernel
theorem dX11_skip_6 : decode cX11_skip 6 = .ok (.if_icmp .ne 16, 3) := by decide +kernel
theorem dX11_skip_9 : decode cX11_skip 9 = .ok (.aload_n 0, 1) := by decide +kernel
theorem dX11_skip_10 : decode cX11_skip 10 = .ok (.dup, 1) := by decide +kernel
theorem dX11_skip_11 : decode cX11_skip 11 = .ok (.getfield 82, 3) := by decide +kernel
theorem dX11_skip_14 : decode cX11_skip 14 = .ok (.iconst 1, 1) := by decide +kernel
theorem dX11_skip_15 : decode cX11_skip 15 = .ok (.iadd, 1) := by decide +kernel
theorem dX11_skip_16 : decode cX11_skip 16 = .ok (.putfield 82, 3) := by decide +kernel
theorem dX11_skip_19 : decode cX11_skip 19 = .ok (.goto (-19), 3) := by decide +kernel
theorem dX11_skip_22 : decode cX11_skip 22 = .ok (.return_, 1) := by decide +kernel
theorem dX11_fail_0 : decode cX11_fail 0 = .ok (.aload_n 0, 1) := by decide +kernel
theorem dX11_fail_1 : decode cX11_fail 1 = .ok (.getfield 89, 3) := by decide +kernel
theorem dX11_fail_4 : decode cX11_fail 4 = .ok (.ifCond .ne 13, 3) := by decide +kernel
theorem dX11_fail_7 : decode cX11_fail 7 = .ok (.aload_n 0, 1) := by decide +kernel
theorem dX11_fail_8 : decode cX11_fail 8 = .ok (.iload_n 1, 1) := by decide +kernel
theorem dX11_fail_9 : decode cX11_fail 9 = .ok (.putfield 89, 3) := by decide +kernel
theorem dX11_fail_12 : decode cX11_fail 12 = .ok (.aload_n 0, 1) := by decide +kernel
theorem dX11_fail_13 : decode cX11_fail 13 = .ok (.iload_n 2, 1) := by decide +kernel
theorem dX11_fail_14 : decode cX11_fail 14 = .ok (.putfield 92, 3) := by decide +kernel
theorem dX11_fail_17 : decode cX11_fail 17 = .ok (.return_, 1) := by decide +kernel
theorem dX11_isFigure_0 : decode cX11_isFigure 0 = .ok (.aload_n 0, 1) := by decide +kernel
theorem dX11_isFigure_1 : decode cX11_isFigure 1 = .ok (.invokevirtual 85, 3) := by decide +kernel
theorem dX11_isFigure_4 : decode cX11_isFigure 4 = .ok (.bipush 48, 2) := by decide +kernel
theorem dX11_isFigure_6 : decode cX11_isFigure 6 = .ok (.bipush 57, 2) := by decide +kernel
theorem dX11_isFigure_8 : decode cX11_isFigure 8 = .ok (.invokestatic 73, 3) := by decide +kernel
theorem dX11_isFigure_11 : decode cX11_isFigure 11 = .ok (.ireturn, 1) := by decide +kernel
theorem dX11_number_0 : decode cX11_number 0 = .ok (.aload_n 0, 1) := by decide +kernel
theorem dX11_number_1 : decode cX11_number 1 = .ok (.getfield 89, 3) := by decide +kernel
theorem dX11_number_4 : decode cX11_number 4 = .ok (.ifCond .eq 5, 3) := by decide +kernel
theorem dX11_number_7 : decode cX11_number 7 = .ok (.iload_n 1, 1) := by decide +kernel
theorem dX11_number_8 : decode cX11_number 8 = .ok (.ireturn, 1) := by decide +kernel
theorem dX11_number_9 : decode cX11_number 9 = .ok (.aload_n 0, 1) := by decide +kernel
theorem dX11_number_10 : decode cX11_number 10 = .ok (.invokevirtual 95, 3) := by decide +kernel
theorem dX11_number_13 : decode cX11_number 13 = .ok (.aload_n 0, 1) := by decide +kernel
theorem dX11_number_14 : decode cX11_number 14 = .ok (.getfield 82, 3) := by decide +kernel
theorem dX11_number_17 : decode cX11_number 17 = .ok (.istore_n 3, 1) := by decide +kernel
theorem dX11_number_18 : decode cX11_number 18 = .ok (.iconst 0, 1) := by decide +kernel
theorem dX11_number_19 : decode cX11_number 19 = .ok (.istore 4, 2) := by decide +kernel
theorem dX11_number_21 : decode cX11_number 21 = .ok (.aload_n 0, 1) := by decide +kernel
theorem dX11_number_22 : decode cX11_number 22 = .ok (.invokevirtual 98, 3) := by decide +kernel
theorem dX11_number_25 : decode cX11_number 25 = .ok (.ifCond .ne 14, 3) := by decide +kernel
theorem dX11_number_28 : decode cX11_number 28 = .ok (.aload_n 0, 1) := by decide +kernel
theorem dX11_number_29 : decode cX11_number 29 = .ok (.iconst 1, 1) := by decide +kernel
theorem dX11_number_30 : decode cX11_number 30 = .ok (.aload_n 0, 1) := by decide +kernel
theorem dX11_number_31 : decode cX11_number 31 = .ok (.getfield 82, 3) := by decide +kernel
theorem dX11_number_34 : decode cX11_number 34 = .ok (.invokevirtual 102, 3) := by decide +kernel
theorem dX11_number_37 : decode cX11_number 37 = .ok (.iload_n 1, 1) := by decide +kernel
theorem dX11_number_38 : decode cX11_number 38 = .ok (.ireturn, 1) := by decide +kernel
theorem dX11_number_39 : decode cX11_number 39 = .ok (.aload_n 0, 1) := by decide +kernel
theorem dX11_number_40 : decode cX11_number 40 = .ok (.invokevirtual 98, 3) := by decide +kernel
theorem dX11_number_43 : decode cX11_number 43 = .ok (.ifCond .eq 46, 3) := by decide +kernel
theorem dX11_number_46 : decode cX11_number 46 = .ok (.aload_n 0, 1) := by decide +kernel
theorem dX11_number_47 : decode cX11_number 47 = .ok (.getfield 82, 3) := by decide +kernel
theorem dX11_number_50 : decode cX11_number 50 = .ok (.iload_n 3, 1) := by decide +kernel
theorem dX11_number_51 : decode cX11_number 51 = .ok (.isub, 1) := by decide +kernel
theorem dX11_number_52 : decode cX11_number 52 = .ok (.iconst 3, 1) := by decide +kernel
theorem dX11_number_53 : decode cX11_number 53 = .ok (.if_icmp .ge 19, 3) := by decide +kernel
theorem dX11_number_56 : decode cX11_number 56 = .ok (.bipush 10, 2) := by decide +kernel
theorem dX11_number_58 : decode cX11_number 58 = .ok (.iload 4, 2) := by decide +kernel
theorem dX11_number_60 : decode cX11_number 60 = .ok (.imul, 1) := by decide +kernel
theorem dX11_number_61 : decode cX11_number 61 = .ok (.aload_n 0, 1) := by decide +kernel
theorem dX11_number_62 : decode cX11_number 62 = .ok (.invokevirtual 85, 3) := by decide +kernel
theorem dX11_number_65 : decode cX11_number 65 = .ok (.iadd, 1) := by decide +kernel
theorem dX11_number_66 : decode cX11_number 66 = .ok (.bipush 48, 2) := by decide +kernel
theorem dX11_number_68 : decode cX11_number 68 = .ok (.isub, 1) := by decide +kernel
theorem dX11_number_69 : decode cX11_number 69 = .ok (.goto 5, 3) := by decide +kernel
theorem dX11_number_72 : decode cX11_number 72 = .ok (.iload 4, 2) := by decide +kernel
theorem dX11_number_74 : decode cX11_number 74 = .ok (.istore 4, 2) := by decide +kernel
theorem dX11_number_76 : decode cX11_number 76 = .ok (.aload_n 0, 1) := by decide +kernel
theorem dX11_number_77 : decode cX11_number 77 = .ok (.dup, 1) := by decide +kernel
theorem dX11_number_78 : decode cX11_number 78 = .ok (.getfield 82, 3) := by decide +kernel
theorem dX11_number_81 : decode cX11_number 81 = .ok (.iconst 1, 1) := by decide +kernel
theorem dX11_number_82 : decode cX11_number 82 = .ok (.iadd, 1) := by decide +kernel
theorem dX11_number_83 : decode cX11_number 83 = .ok (.putfield 82, 3) := by decide +kernel
theorem dX11_number_86 : decode cX11_number 86 = .ok (.goto (-47), 3) := by decide +kernel
theorem dX11_number_89 : decode cX11_number 89 = .ok (.aload_n 0, 1) := by decide +kernel
theorem dX11_number_90 : decode cX11_number 90 = .ok (.getfield 82, 3) := by decide +kernel
theorem dX11_number_93 : decode cX11_number 93 = .ok (.iload_n 3, 1) := by decide +kernel
theorem dX11_number_94 : decode cX11_number 94 = .ok (.isub, 1) := by decide +kernel
theorem dX11_number_95 : decode cX11_number 95 = .ok (.iconst 3, 1) := by decide +kernel
theorem dX11_number_96 : decode cX11_number 96 = .ok (.if_icmp .gt 13, 3) := by decide +kernel
theorem dX11_number_99 : decode cX11_number 99 = .ok (.iload 4, 2) := by decide +kernel
theorem dX11_number_101 : decode cX11_number 101 = .ok (.iload_n 1, 1) := by decide +kernel
theorem dX11_number_102 : decode cX11_number 102 = .ok (.iload_n 2, 1) := by decide +kernel
theorem dX11_number_103 : decode cX11_number 103 = .ok (.invokestatic 73, 3) := by decide +kernel
theorem dX11_number_106 : decode cX11_number 106 = .ok (.ifCond .ne 11, 3) := by decide +kernel
theorem dX11_number_109 : decode cX11_number 109 = .ok (.aload_n 0, 1) := by decide +kernel
theorem dX11_number_110 : decode cX11_number 110 = .ok (.iconst 2, 1) := by decide +kernel
theorem dX11_number_111 : decode cX11_number 111 = .ok (.iload_n 3, 1) := by decide +kernel
theorem dX11_number_112 : decode cX11_number 112 = .ok (.invokevirtual 102, 3) := by decide +kernel
theorem dX11_number_115 : decode cX11_number 115 = .ok (.iload_n 1, 1) := by decide +kernel
theorem dX11_number_116 : decode cX11_number 116 = .ok (.ireturn, 1) := by decide +kernel
theorem dX11_number_117 : decode cX11_number 117 = .ok (.iload 4, 2) := by decide +kernel
theorem dX11_number_119 : decode cX11_number 119 = .ok (.ireturn, 1) := by decide +kernel
theorem dX11_end_0 : decode cX11_end 0 = .ok (.aload_n 0, 1) := by decide +kernel
theorem dX11_end_1 : decode cX11_end 1 = .ok (.getfield 89, 3) := by decide +kernel
theorem dX11_end_4 : decode cX11_end 4 = .ok (.ifCond .eq 4, 3) := by decide +kernel
theorem dX11_end_7 : decode cX11_end 7 = .ok (.return_, 1) := by decide +kernel
theorem dX11_end_8 : decode cX11_end 8 = .ok (.aload_n 0, 1) := by decide +kernel
theorem dX11_end_9 : decode cX11_end 9 = .ok (.invokevirtual 95, 3) := by decide +kernel
theorem dX11_end_12 : decode cX11_end 12 = .ok (.aload_n 0, 1) := by decide +kernel
theorem dX11_end_13 : decode cX11_end 13 = .ok (.invokevirtual 85, 3) := by decide +kernel
theorem dX11_end_16 : decode cX11_end 16 = .ok (.bipush 59, 2) := by decide +kernel
theorem dX11_end_18 : decode cX11_end 18 = .ok (.if_icmp .ne 16, 3) := by decide +kernel
theorem dX11_end_21 : decode cX11_end 21 = .ok (.aload_n 0, 1) := by decide +kernel
theorem dX11_end_22 : decode cX11_end 22 = .ok (.dup, 1) := by decide +kernel
theorem dX11_end_23 : decode cX11_end 23 = .ok (.getfield 82, 3) := by decide +kernel
theorem dX11_end_26 : decode cX11_end 26 = .ok (.iconst 1, 1) := by decide +kernel
theorem dX11_end_27 : decode cX11_end 27 = .ok (.iadd, 1) := by decide +kernel
theorem dX11_end_28 : decode cX11_end 28 = .ok (.putfield 82, 3) := by decide +kernel
theorem dX11_end_31 : decode cX11_end 31 = .ok (.goto 12, 3) := by decide +kernel
theorem dX11_end_34 : decode cX11_end 34 = .ok (.aload_n 0, 1) := by decide +kernel
theorem dX11_end_35 : decode cX11_end 35 = .ok (.iconst 1, 1) := by decide +kernel
theorem dX11_end_36 : decode cX11_end 36 = .ok (.aload_n 0, 1) := by decide +kernel
theorem dX11_end_37 : decode cX11_end 37 = .ok (.getfield 82, 3) := by decide +kernel
theorem dX11_end_40 : decode cX11_end 40 = .ok (.invokevirtual 102, 3) := by decide +kernel
theorem dX11_end_43 : decode cX11_end 43 = .ok (.return_, 1) := by decide +kernel
theorem dX11_readMarks_0 : decode cX11_readMarks 0 = .ok (.aload_n 1, 1) := by decide +kernel
theorem dX11_readMarks_1 : decode cX11_readMarks 1 = .ok (.iconst 4, 1) := by decide +kernel
theorem dX11_readMarks_2 : decode cX11_readMarks 2 = .ok (.iload_n 2, 1) := by decide +kernel
theorem dX11_readMarks_3 : decode cX11_readMarks 3 = .ok (.imul, 1) := by decide +kernel
theorem dX11_readMarks_4 : decode cX11_readMarks 4 = .ok (.aload_n 0, 1) := by decide +kernel
theorem dX11_readMarks_5 : decode cX11_readMarks 5 = .ok (.iconst 0, 1) := by decide +kernel
theorem dX11_readMarks_6 : decode cX11_readMarks 6 = .ok (.iconst 4, 1) := by decide +kernel
theorem dX11_readMarks_7 : decode cX11_readMarks 7 = .ok (.invokevirtual 106, 3) := by decide +kernel
theorem dX11_readMarks_10 : decode cX11_readMarks 10 = .ok (.iastore, 1) := by decide +kernel
theorem dX11_readMarks_11 : decode cX11_readMarks 11 = .ok (.aload_n 1, 1) := by decide +kernel
theorem dX11_readMarks_12 : decode cX11_readMarks 12 = .ok (.iconst 4, 1) := by decide +kernel
theorem dX11_readMarks_13 : decode cX11_readMarks 13 = .ok (.iload_n 2, 1) := by decide +kernel
theorem dX11_readMarks_14 : decode cX11_readMarks 14 = .ok (.imul, 1) := by decide +kernel
theorem dX11_readMarks_15 : decode cX11_readMarks 15 = .ok (.iconst 1, 1) := by decide +kernel
theorem dX11_readMarks_16 : decode cX11_readMarks 16 = .ok (.iadd, 1) := by decide +kernel
theorem dX11_readMarks_17 : decode cX11_readMarks 17 = .ok (.aload_n 0, 1) := by decide +kernel
theorem dX11_readMarks_18 : decode cX11_readMarks 18 = .ok (.iconst 1, 1) := by decide +kernel
theorem dX11_readMarks_19 : decode cX11_readMarks 19 = .ok (.bipush 9, 2) := by decide +kernel
theorem dX11_readMarks_21 : decode cX11_readMarks 21 = .ok (.invokevirtual 106, 3) := by decide +kernel
theorem dX11_readMarks_24 : decode cX11_readMarks 24 = .ok (.iastore, 1) := by decide +kernel
theorem dX11_readMarks_25 : decode cX11_readMarks 25 = .ok (.aload_n 1, 1) := by decide +kernel
theorem dX11_readMarks_26 : decode cX11_readMarks 26 = .ok (.iconst 4, 1) := by decide +kernel
theorem dX11_readMarks_27 : decode cX11_readMarks 27 = .ok (.iload_n 2, 1) := by decide +kernel
theorem dX11_readMarks_28 : decode cX11_readMarks 28 = .ok (.imul, 1) := by decide +kernel
theorem dX11_readMarks_29 : decode cX11_readMarks 29 = .ok (.iconst 2, 1) := by decide +kernel
theorem dX11_readMarks_30 : decode cX11_readMarks 30 = .ok (.iadd, 1) := by decide +kernel
theorem dX11_readMarks_31 : decode cX11_readMarks 31 = .ok (.aload_n 0, 1) := by decide +kernel
theorem dX11_readMarks_32 : decode cX11_readMarks 32 = .ok (.iconst 0, 1) := by decide +kernel
theorem dX11_readMarks_33 : decode cX11_readMarks 33 = .ok (.iconst 5, 1) := by decide +kernel
theorem dX11_readMarks_34 : decode cX11_readMarks 34 = .ok (.invokevirtual 106, 3) := by decide +kernel
theorem dX11_readMarks_37 : decode cX11_readMarks 37 = .ok (.iastore, 1) := by decide +kernel
theorem dX11_readMarks_38 : decode cX11_readMarks 38 = .ok (.aload_n 1, 1) := by decide +kernel
theorem dX11_readMarks_39 : decode cX11_readMarks 39 = .ok (.iconst 4, 1) := by decide +kernel
theorem dX11_readMarks_40 : decode cX11_readMarks 40 = .ok (.iload_n 2, 1) := by decide +kernel
theorem dX11_readMarks_41 : decode cX11_readMarks 41 = .ok (.imul, 1) := by decide +kernel
theorem dX11_readMarks_42 : decode cX11_readMarks 42 = .ok (.iconst 3, 1) := by decide +kernel
theorem dX11_readMarks_43 : decode cX11_readMarks 43 = .ok (.iadd, 1) := by decide +kernel
theorem dX11_readMarks_44 : decode cX11_readMarks 44 = .ok (.aload_n 0, 1) := by decide +kernel
theorem dX11_readMarks_45 : decode cX11_readMarks 45 = .ok (.iconst 0, 1) := by decide +kernel
theorem dX11_readMarks_46 : decode cX11_readMarks 46 = .ok (.iconst 1, 1) := by decide +kernel
theorem dX11_readMarks_47 : decode cX11_readMarks 47 = .ok (.invokevirtual 106, 3) := by decide +kernel
theorem dX11_readMarks_50 : decode cX11_readMarks 50 = .ok (.iastore, 1) := by decide +kernel
theorem dX11_readMarks_51 : decode cX11_readMarks 51 = .ok (.return_, 1) := by decide +kernel
theorem dX11_clause_0 : decode cX11_clause 0 = .ok (.iload_n 1, 1) := by decide +kernel
theorem dX11_clause_1 : decode cX11_clause 1 = .ok (.lookupswitch 272 #[(98, 43), (110, 228), (114, 84), (117, 188)], 43) := by decide +kernel
theorem dX11_clause_44 : decode cX11_clause 44 = .ok (.aload_n 0, 1) := by decide +kernel
theorem dX11_clause_45 : decode cX11_clause 45 = .ok (.getfield 110, 3) := by decide +kernel
theorem dX11_clause_48 : decode cX11_clause 48 = .ok (.bipush 12, 2) := by decide +kernel
theorem dX11_clause_50 : decode cX11_clause 50 = .ok (.if_icmp .ne 10, 3) := by decide +kernel
theorem dX11_clause_53 : decode cX11_clause 53 = .ok (.aload_n 0, 1) := by decide +kernel
theorem dX11_clause_54 : decode cX11_clause 54 = .ok (.iconst 3, 1) := by decide +kernel
theorem dX11_clause_55 : decode cX11_clause 55 = .ok (.iload_n 2, 1) := by decide +kernel
theorem dX11_clause_56 : decode cX11_clause 56 = .ok (.invokevirtual 102, 3) := by decide +kernel
theorem dX11_clause_59 : decode cX11_clause 59 = .ok (.return_, 1) := by decide +kernel
theorem dX11_clause_60 : decode cX11_clause 60 = .ok (.aload_n 0, 1) := by decide +kernel
theorem dX11_clause_61 : decode cX11_clause 61 = .ok (.aload_n 0, 1) := by decide +kernel
theorem dX11_clause_62 : decode cX11_clause 62 = .ok (.getfield 26, 3) := by decide +kernel
theorem dX11_clause_65 : decode cX11_clause 65 = .ok (.aload_n 0, 1) := by decide +kernel
theorem dX11_clause_66 : decode cX11_clause 66 = .ok (.getfield 110, 3) := by decide +kernel
theorem dX11_clause_69 : decode cX11_clause 69 = .ok (.invokevirtual 113, 3) := by decide +kernel
theorem dX11_clause_72 : decode cX11_clause 72 = .ok (.aload_n 0, 1) := by decide +kernel
theorem dX11_clause_73 : decode cX11_clause 73 = .ok (.dup, 1) := by decide +kernel
theorem dX11_clause_74 : decode cX11_clause 74 = .ok (.getfield 110, 3) := by decide +kernel
theorem dX11_clause_77 : decode cX11_clause 77 = .ok (.iconst 1, 1) := by decide +kernel
theorem dX11_clause_78 : decode cX11_clause 78 = .ok (.iadd, 1) := by decide +kernel
theorem dX11_clause_79 : decode cX11_clause 79 = .ok (.putfield 110, 3) := by decide +kernel
theorem dX11_clause_82 : decode cX11_clause 82 = .ok (.goto 207, 3) := by decide +kernel
theorem dX11_clause_85 : decode cX11_clause 85 = .ok (.aload_n 0, 1) := by decide +kernel
theorem dX11_clause_86 : decode cX11_clause 86 = .ok (.getfield 117, 3) := by decide +kernel
theorem dX11_clause_89 : decode cX11_clause 89 = .ok (.bipush 6, 2) := by decide +kernel
theorem dX11_clause_91 : decode cX11_clause 91 = .ok (.if_icmp .ne 10, 3) := by decide +kernel
theorem dX11_clause_94 : decode cX11_clause 94 = .ok (.aload_n 0, 1) := by decide +kernel
theorem dX11_clause_95 : decode cX11_clause 95 = .ok (.iconst 3, 1) := by decide +kernel
theorem dX11_clause_96 : decode cX11_clause 96 = .ok (.iload_n 2, 1) := by decide +kernel
theorem dX11_clause_97 : decode cX11_clause 97 = .ok (.invokevirtual 102, 3) := by decide +kernel
theorem dX11_clause_100 : decode cX11_clause 100 = .ok (.return_, 1) := by decide +kernel
theorem dX11_clause_101 : decode cX11_clause 101 = .ok (.aload_n 0, 1) := by decide +kernel
theorem dX11_clause_102 : decode cX11_clause 102 = .ok (.getfield 29, 3) := by decide +kernel
theorem dX11_clause_105 : decode cX11_clause 105 = .ok (.iconst 4, 1) := by decide +kernel
theorem dX11_clause_106 : decode cX11_clause 106 = .ok (.aload_n 0, 1) := by decide +kernel
theorem dX11_clause_107 : decode cX11_clause 107 = .ok (.getfield 117, 3) := by decide +kernel
theorem dX11_clause_110 : decode cX11_clause 110 = .ok (.imul, 1) := by decide +kernel
theorem dX11_clause_111 : decode cX11_clause 111 = .ok (.aload_n 0, 1) := by decide +kernel
theorem dX11_clause_112 : decode cX11_clause 112 = .ok (.iconst 0, 1) := by decide +kernel
theorem dX11_clause_113 : decode cX11_clause 113 = .ok (.iconst 3, 1) := by decide +kernel
theorem dX11_clause_114 : decode cX11_clause 114 = .ok (.invokevirtual 106, 3) := by decide +kernel
theorem dX11_clause_117 : decode cX11_clause 117 = .ok (.iastore, 1) := by decide +kernel
theorem dX11_clause_118 : decode cX11_clause 118 = .ok (.aload_n 0, 1) := by decide +kernel
theorem dX11_clause_119 : decode cX11_clause 119 = .ok (.getfield 29, 3) := by decide +kernel
theorem dX11_clause_122 : decode cX11_clause 122 = .ok (.iconst 4, 1) := by decide +kernel
theorem dX11_clause_123 : decode cX11_clause 123 = .ok (.aload_n 0, 1) := by decide +kernel
theorem dX11_clause_124 : decode cX11_clause 124 = .ok (.getfield 117, 3) := by decide +kernel
theorem dX11_clause_127 : decode cX11_clause 127 = .ok (.imul, 1) := by decide +kernel
theorem dX11_clause_128 : decode cX11_clause 128 = .ok (.iconst 1, 1) := by decide +kernel
theorem dX11_clause_129 : decode cX11_clause 129 = .ok (.iadd, 1) := by decide +kernel
theorem dX11_clause_130 : decode cX11_clause 130 = .ok (.aload_n 0, 1) := by decide +kernel
theorem dX11_clause_131 : decode cX11_clause 131 = .ok (.iconst 0, 1) := by decide +kernel
theorem dX11_clause_132 : decode cX11_clause 132 = .ok (.iconst 2, 1) := by decide +kernel
theorem dX11_clause_133 : decode cX11_clause 133 = .ok (.invokevirtual 106, 3) := by decide +kernel
theorem dX11_clause_136 : decode cX11_clause 136 = .ok (.iastore, 1) := by decide +kernel
theorem dX11_clause_137 : decode cX11_clause 137 = .ok (.aload_n 0, 1) := by decide +kernel
theorem dX11_clause_138 : decode cX11_clause 138 = .ok (.getfield 29, 3) := by decide +kernel
theorem dX11_clause_141 : decode cX11_clause 141 = .ok (.iconst 4, 1) := by decide +kernel
theorem dX11_clause_142 : decode cX11_clause 142 = .ok (.aload_n 0, 1) := by decide +kernel
theorem dX11_clause_143 : decode cX11_clause 143 = .ok (.getfield 117, 3) := by decide +kernel
theorem dX11_clause_146 : decode cX11_clause 146 = .ok (.imul, 1) := by decide +kernel
theorem dX11_clause_147 : decode cX11_clause 147 = .ok (.iconst 2, 1) := by decide +kernel
theorem dX11_clause_148 : decode cX11_clause 148 = .ok (.iadd, 1) := by decide +kernel
theorem dX11_clause_149 : decode cX11_clause 149 = .ok (.aload_n 0, 1) := by decide +kernel
theorem dX11_clause_150 : decode cX11_clause 150 = .ok (.iconst 0, 1) := by decide +kernel
theorem dX11_clause_151 : decode cX11_clause 151 = .ok (.bipush 9, 2) := by decide +kernel
theorem dX11_clause_153 : decode cX11_clause 153 = .ok (.invokevirtual 106, 3) := by decide +kernel
theorem dX11_clause_156 : decode cX11_clause 156 = .ok (.iastore, 1) := by decide +kernel
theorem dX11_clause_157 : decode cX11_clause 157 = .ok (.aload_n 0, 1) := by decide +kernel
theorem dX11_clause_158 : decode cX11_clause 158 = .ok (.getfield 29, 3) := by decide +kernel
theorem dX11_clause_161 : decode cX11_clause 161 = .ok (.iconst 4, 1) := by decide +kernel
theorem dX11_clause_162 : decode cX11_clause 162 = .ok (.aload_n 0, 1) := by decide +kernel
theorem dX11_clause_163 : decode cX11_clause 163 = .ok (.getfield 117, 3) := by decide +kernel
theorem dX11_clause_166 : decode cX11_clause 166 = .ok (.imul, 1) := by decide +kernel
theorem dX11_clause_167 : decode cX11_clause 167 = .ok (.iconst 3, 1) := by decide +kernel
theorem dX11_clause_168 : decode cX11_clause 168 = .ok (.iadd, 1) := by decide +kernel
theorem dX11_clause_169 : decode cX11_clause 169 = .ok (.aload_n 0, 1) := by decide +kernel
theorem dX11_clause_170 : decode cX11_clause 170 = .ok (.iconst 0, 1) := by decide +kernel
theorem dX11_clause_171 : decode cX11_clause 171 = .ok (.iconst 5, 1) := by decide +kernel
theorem dX11_clause_172 : decode cX11_clause 172 = .ok (.invokevirtual 106, 3) := by decide +kernel
theorem dX11_clause_175 : decode cX11_clause 175 = .ok (.iastore, 1) := by decide +kernel
theorem dX11_clause_176 : decode cX11_clause 176 = .ok (.aload_n 0, 1) := by decide +kernel
theorem dX11_clause_177 : decode cX11_clause 177 = .ok (.dup, 1) := by decide +kernel
theorem dX11_clause_178 : decode cX11_clause 178 = .ok (.getfield 117, 3) := by decide +kernel
theorem dX11_clause_181 : decode cX11_clause 181 = .ok (.iconst 1, 1) := by decide +kernel
theorem dX11_clause_182 : decode cX11_clause 182 = .ok (.iadd, 1) := by decide +kernel
theorem dX11_clause_183 : decode cX11_clause 183 = .ok (.putfield 117, 3) := by decide +kernel
theorem dX11_clause_186 : decode cX11_clause 186 = .ok (.goto 103, 3) := by decide +kernel
theorem dX11_clause_189 : decode cX11_clause 189 = .ok (.aload_n 0, 1) := by decide +kernel
theorem dX11_clause_190 : decode cX11_clause 190 = .ok (.getfield 120, 3) := by decide +kernel
theorem dX11_clause_193 : decode cX11_clause 193 = .ok (.iconst 5, 1) := by decide +kernel
theorem dX11_clause_194 : decode cX11_clause 194 = .ok (.if_icmp .ne 10, 3) := by decide +kernel
theorem dX11_clause_197 : decode cX11_clause 197 = .ok (.aload_n 0, 1) := by decide +kernel
theorem dX11_clause_198 : decode cX11_clause 198 = .ok (.iconst 3, 1) := by decide +kernel
theorem dX11_clause_199 : decode cX11_clause 199 = .ok (.iload_n 2, 1) := by decide +kernel
theorem dX11_clause_200 : decode cX11_clause 200 = .ok (.invokevirtual 102, 3) := by decide +kernel
theorem dX11_clause_203 : decode cX11_clause 203 = .ok (.return_, 1) := by decide +kernel
theorem dX11_clause_204 : decode cX11_clause 204 = .ok (.aload_n 0, 1) := by decide +kernel
theorem dX11_clause_205 : decode cX11_clause 205 = .ok (.aload_n 0, 1) := by decide +kernel
theorem dX11_clause_206 : decode cX11_clause 206 = .ok (.getfield 32, 3) := by decide +kernel
theorem dX11_clause_209 : decode cX11_clause 209 = .ok (.aload_n 0, 1) := by decide +kernel
theorem dX11_clause_210 : decode cX11_clause 210 = .ok (.getfield 120, 3) := by decide +kernel
theorem dX11_clause_213 : decode cX11_clause 213 = .ok (.invokevirtual 113, 3) := by decide +kernel
theorem dX11_clause_216 : decode cX11_clause 216 = .ok (.aload_n 0, 1) := by decide +kernel
theorem dX11_clause_217 : decode cX11_clause 217 = .ok (.dup, 1) := by decide +kernel
theorem dX11_clause_218 : decode cX11_clause 218 = .ok (.getfield 120, 3) := by decide +kernel
theorem dX11_clause_221 : decode cX11_clause 221 = .ok (.iconst 1, 1) := by decide +kernel
theorem dX11_clause_222 : decode cX11_clause 222 = .ok (.iadd, 1) := by decide +kernel
theorem dX11_clause_223 : decode cX11_clause 223 = .ok (.putfield 120, 3) := by decide +kernel
theorem dX11_clause_226 : decode cX11_clause 226 = .ok (.goto 63, 3) := by decide +kernel
theorem dX11_clause_229 : decode cX11_clause 229 = .ok (.aload_n 0, 1) := by decide +kernel
theorem dX11_clause_230 : decode cX11_clause 230 = .ok (.getfield 123, 3) := by decide +kernel
theorem dX11_clause_233 : decode cX11_clause 233 = .ok (.iconst 5, 1) := by decide +kernel
theorem dX11_clause_234 : decode cX11_clause 234 = .ok (.if_icmp .ne 10, 3) := by decide +kernel
theorem dX11_clause_237 : decode cX11_clause 237 = .ok (.aload_n 0, 1) := by decide +kernel
theorem dX11_clause_238 : decode cX11_clause 238 = .ok (.iconst 3, 1) := by decide +kernel
theorem dX11_clause_239 : decode cX11_clause 239 = .ok (.iload_n 2, 1) := by decide +kernel
theorem dX11_clause_240 : decode cX11_clause 240 = .ok (.invokevirtual 102, 3) := by decide +kernel
theorem dX11_clause_243 : decode cX11_clause 243 = .ok (.return_, 1) := by decide +kernel
theorem dX11_clause_244 : decode cX11_clause 244 = .ok (.aload_n 0, 1) := by decide +kernel
theorem dX11_clause_245 : decode cX11_clause 245 = .ok (.getfield 35, 3) := by decide +kernel
theorem dX11_clause_248 : decode cX11_clause 248 = .ok (.aload_n 0, 1) := by decide +kernel
theorem dX11_clause_249 : decode cX11_clause 249 = .ok (.getfield 123, 3) := by decide +kernel
theorem dX11_clause_252 : decode cX11_clause 252 = .ok (.aload_n 0, 1) := by decide +kernel
theorem dX11_clause_253 : decode cX11_clause 253 = .ok (.iconst 0, 1) := by decide +kernel
theorem dX11_clause_254 : decode cX11_clause 254 = .ok (.bipush 99, 2) := by decide +kernel
theorem dX11_clause_256 : decode cX11_clause 256 = .ok (.invokevirtual 106, 3) := by decide +kernel
theorem dX11_clause_259 : decode cX11_clause 259 = .ok (.iastore, 1) := by decide +kernel
theorem dX11_clause_260 : decode cX11_clause 260 = .ok (.aload_n 0, 1) := by decide +kernel
theorem dX11_clause_261 : decode cX11_clause 261 = .ok (.dup, 1) := by decide +kernel
theorem dX11_clause_262 : decode cX11_clause 262 = .ok (.getfield 123, 3) := by decide +kernel
theorem dX11_clause_265 : decode cX11_clause 265 = .ok (.iconst 1, 1) := by decide +kernel
theorem dX11_clause_266 : decode cX11_clause 266 = .ok (.iadd, 1) := by decide +kernel
theorem dX11_clause_267 : decode cX11_clause 267 = .ok (.putfield 123, 3) := by decide +kernel
theorem dX11_clause_270 : decode cX11_clause 270 = .ok (.goto 19, 3) := by decide +kernel
theorem dX11_clause_273 : decode cX11_clause 273 = .ok (.aload_n 0, 1) := by decide +kernel
theorem dX11_clause_274 : decode cX11_clause 274 = .ok (.iload_n 1, 1) := by decide +kernel
theorem dX11_clause_275 : decode cX11_clause 275 = .ok (.bipush 116, 2) := by decide +kernel
theorem dX11_clause_277 : decode cX11_clause 277 = .ok (.if_icmp .ne 7, 3) := by decide +kernel
theorem dX11_clause_280 : decode cX11_clause 280 = .ok (.iconst 3, 1) := by decide +kernel
theorem dX11_clause_281 : decode cX11_clause 281 = .ok (.goto 4, 3) := by decide +kernel
theorem dX11_clause_284 : decode cX11_clause 284 = .ok (.iconst 1, 1) := by decide +kernel
theorem dX11_clause_285 : decode cX11_clause 285 = .ok (.iload_n 2, 1) := by decide +kernel
theorem dX11_clause_286 : decode cX11_clause 286 = .ok (.invokevirtual 102, 3) := by decide +kernel
theorem dX11_clause_289 : decode cX11_clause 289 = .ok (.aload_n 0, 1) := by decide +kernel
theorem dX11_clause_290 : decode cX11_clause 290 = .ok (.invokevirtual 126, 3) := by decide +kernel
theorem dX11_clause_293 : decode cX11_clause 293 = .ok (.return_, 1) := by decide +kernel
theorem dX11_read_0 : decode cX11_read 0 = .ok (.aload_n 0, 1) := by decide +kernel
theorem dX11_read_1 : decode cX11_read 1 = .ok (.iconst 0, 1) := by decide +kernel
theorem dX11_read_2 : decode cX11_read 2 = .ok (.putfield 82, 3) := by decide +kernel
theorem dX11_read_5 : decode cX11_read 5 = .ok (.aload_n 0, 1) := by decide +kernel
theorem dX11_read_6 : decode cX11_read 6 = .ok (.iconst 0, 1) := by decide +kernel
theorem dX11_read_7 : decode cX11_read 7 = .ok (.putfield 89, 3) := by decide +kernel
theorem dX11_read_10 : decode cX11_read 10 = .ok (.aload_n 0, 1) := by decide +kernel
theorem dX11_read_11 : decode cX11_read 11 = .ok (.iconst (-1), 1) := by decide +kernel
theorem dX11_read_12 : decode cX11_read 12 = .ok (.putfield 92, 3) := by decide +kernel
theorem dX11_read_15 : decode cX11_read 15 = .ok (.aload_n 0, 1) := by decide +kernel
theorem dX11_read_16 : decode cX11_read 16 = .ok (.iconst 0, 1) := by decide +kernel
theorem dX11_read_17 : decode cX11_read 17 = .ok (.putfield 129, 3) := by decide +kernel
theorem dX11_read_20 : decode cX11_read 20 = .ok (.aload_n 0, 1) := by decide +kernel
theorem dX11_read_21 : decode cX11_read 21 = .ok (.iconst 0, 1) := by decide +kernel
theorem dX11_read_22 : decode cX11_read 22 = .ok (.putfield 110, 3) := by decide +kernel
theorem dX11_read_25 : decode cX11_read 25 = .ok (.aload_n 0, 1) := by decide +kernel
theorem dX11_read_26 : decode cX11_read 26 = .ok (.iconst 0, 1) := by decide +kernel
theorem dX11_read_27 : decode cX11_read 27 = .ok (.putfield 117, 3) := by decide +kernel
theorem dX11_read_30 : decode cX11_read 30 = .ok (.aload_n 0, 1) := by decide +kernel
theorem dX11_read_31 : decode cX11_read 31 = .ok (.iconst 0, 1) := by decide +kernel
theorem dX11_read_32 : decode cX11_read 32 = .ok (.putfield 120, 3) := by decide +kernel
theorem dX11_read_35 : decode cX11_read 35 = .ok (.aload_n 0, 1) := by decide +kernel
theorem dX11_read_36 : decode cX11_read 36 = .ok (.iconst 0, 1) := by decide +kernel
theorem dX11_read_37 : decode cX11_read 37 = .ok (.putfield 123, 3) := by decide +kernel
theorem dX11_read_40 : decode cX11_read 40 = .ok (.aload_n 0, 1) := by decide +kernel
theorem dX11_read_41 : decode cX11_read 41 = .ok (.invokevirtual 95, 3) := by decide +kernel
theorem dX11_read_44 : decode cX11_read 44 = .ok (.aload_n 0, 1) := by decide +kernel
theorem dX11_read_45 : decode cX11_read 45 = .ok (.getfield 82, 3) := by decide +kernel
theorem dX11_read_48 : decode cX11_read 48 = .ok (.aload_n 0, 1) := by decide +kernel
theorem dX11_read_49 : decode cX11_read 49 = .ok (.getfield 78, 3) := by decide +kernel
theorem dX11_read_52 : decode cX11_read 52 = .ok (.if_icmp .ne 4, 3) := by decide +kernel
theorem dX11_read_55 : decode cX11_read 55 = .ok (.return_, 1) := by decide +kernel
theorem dX11_read_56 : decode cX11_read 56 = .ok (.aload_n 0, 1) := by decide +kernel
theorem dX11_read_57 : decode cX11_read 57 = .ok (.invokevirtual 85, 3) := by decide +kernel
theorem dX11_read_60 : decode cX11_read 60 = .ok (.bipush 116, 2) := by decide +kernel
theorem dX11_read_62 : decode cX11_read 62 = .ok (.if_icmp .eq 13, 3) := by decide +kernel
theorem dX11_read_65 : decode cX11_read 65 = .ok (.aload_n 0, 1) := by decide +kernel
theorem dX11_read_66 : decode cX11_read 66 = .ok (.iconst 1, 1) := by decide +kernel
theorem dX11_read_67 : decode cX11_read 67 = .ok (.aload_n 0, 1) := by decide +kernel
theorem dX11_read_68 : decode cX11_read 68 = .ok (.getfield 82, 3) := by decide +kernel
theorem dX11_read_71 : decode cX11_read 71 = .ok (.invokevirtual 102, 3) := by decide +kernel
theorem dX11_read_74 : decode cX11_read 74 = .ok (.return_, 1) := by decide +kernel
theorem dX11_read_75 : decode cX11_read 75 = .ok (.aload_n 0, 1) := by decide +kernel
theorem dX11_read_76 : decode cX11_read 76 = .ok (.dup, 1) := by decide +kernel
theorem dX11_read_77 : decode cX11_read 77 = .ok (.getfield 82, 3) := by decide +kernel
theorem dX11_read_80 : decode cX11_read 80 = .ok (.iconst 1, 1) := by decide +kernel
theorem dX11_read_81 : decode cX11_read 81 = .ok (.iadd, 1) := by decide +kernel
theorem dX11_read_82 : decode cX11_read 82 = .ok (.putfield 82, 3) := by decide +kernel
theorem dX11_read_85 : decode cX11_read 85 = .ok (.aload_n 0, 1) := by decide +kernel
theorem dX11_read_86 : decode cX11_read 86 = .ok (.aload_n 0, 1) := by decide +kernel
theorem dX11_read_87 : decode cX11_read 87 = .ok (.iconst 0, 1) := by decide +kernel
theorem dX11_read_88 : decode cX11_read 88 = .ok (.bipush 100, 2) := by decide +kernel
theorem dX11_read_90 : decode cX11_read 90 = .ok (.invokevirtual 106, 3) := by decide +kernel
theorem dX11_read_93 : decode cX11_read 93 = .ok (.putfield 129, 3) := by decide +kernel
theorem dX11_read_96 : decode cX11_read 96 = .ok (.aload_n 0, 1) := by decide +kernel
theorem dX11_read_97 : decode cX11_read 97 = .ok (.invokevirtual 126, 3) := by decide +kernel
theorem dX11_read_100 : decode cX11_read 100 = .ok (.aload_n 0, 1) := by decide +kernel
theorem dX11_read_101 : decode cX11_read 101 = .ok (.invokevirtual 95, 3) := by decide +kernel
theorem dX11_read_104 : decode cX11_read 104 = .ok (.aload_n 0, 1) := by decide +kernel
theorem dX11_read_105 : decode cX11_read 105 = .ok (.getfield 82, 3) := by decide +kernel
theorem dX11_read_108 : decode cX11_read 108 = .ok (.aload_n 0, 1) := by decide +kernel
theorem dX11_read_109 : decode cX11_read 109 = .ok (.getfield 78, 3) := by decide +kernel
theorem dX11_read_112 : decode cX11_read 112 = .ok (.if_icmp .ge 47, 3) := by decide +kernel
theorem dX11_read_115 : decode cX11_read 115 = .ok (.aload_n 0, 1) := by decide +kernel
theorem dX11_read_116 : decode cX11_read 116 = .ok (.getfield 89, 3) := by decide +kernel
theorem dX11_read_119 : decode cX11_read 119 = .ok (.ifCond .ne 40, 3) := by decide +kernel
theorem dX11_read_122 : decode cX11_read 122 = .ok (.aload_n 0, 1) := by decide +kernel
theorem dX11_read_123 : decode cX11_read 123 = .ok (.getfield 82, 3) := by decide +kernel
theorem dX11_read_126 : decode cX11_read 126 = .ok (.istore_n 1, 1) := by decide +kernel
theorem dX11_read_127 : decode cX11_read 127 = .ok (.aload_n 0, 1) := by decide +kernel
theorem dX11_read_128 : decode cX11_read 128 = .ok (.dup, 1) := by decide +kernel
theorem dX11_read_129 : decode cX11_read 129 = .ok (.getfield 82, 3) := by decide +kernel
theorem dX11_read_132 : decode cX11_read 132 = .ok (.iconst 1, 1) := by decide +kernel
theorem dX11_read_133 : decode cX11_read 133 = .ok (.iadd, 1) := by decide +kernel
theorem dX11_read_134 : decode cX11_read 134 = .ok (.putfield 82, 3) := by decide +kernel
theorem dX11_read_137 : decode cX11_read 137 = .ok (.aload_n 0, 1) := by decide +kernel
theorem dX11_read_138 : decode cX11_read 138 = .ok (.aload_n 0, 1) := by decide +kernel
theorem dX11_read_139 : decode cX11_read 139 = .ok (.getfield 7, 3) := by decide +kernel
theorem dX11_read_142 : decode cX11_read 142 = .ok (.iload_n 1, 1) := by decide +kernel
theorem dX11_read_143 : decode cX11_read 143 = .ok (.baload, 1) := by decide +kernel
theorem dX11_read_144 : decode cX11_read 144 = .ok (.sipush 255, 3) := by decide +kernel
theorem dX11_read_147 : decode cX11_read 147 = .ok (.iand, 1) := by decide +kernel
theorem dX11_read_148 : decode cX11_read 148 = .ok (.iload_n 1, 1) := by decide +kernel
theorem dX11_read_149 : decode cX11_read 149 = .ok (.invokevirtual 132, 3) := by decide +kernel
theorem dX11_read_152 : decode cX11_read 152 = .ok (.aload_n 0, 1) := by decide +kernel
theorem dX11_read_153 : decode cX11_read 153 = .ok (.invokevirtual 95, 3) := by decide +kernel
theorem dX11_read_156 : decode cX11_read 156 = .ok (.goto (-52), 3) := by decide +kernel
theorem dX11_read_159 : decode cX11_read 159 = .ok (.return_, 1) := by decide +kernel
theorem dX11_tin_0 : decode cX11_tin 0 = .ok (.aload_n 0, 1) := by decide +kernel
theorem dX11_tin_1 : decode cX11_tin 1 = .ok (.iconst 0, 1) := by decide +kernel
theorem dX11_tin_2 : decode cX11_tin 2 = .ok (.putfield 82, 3) := by decide +kernel
theorem dX11_tin_5 : decode cX11_tin 5 = .ok (.aload_n 0, 1) := by decide +kernel
theorem dX11_tin_6 : decode cX11_tin 6 = .ok (.invokevirtual 95, 3) := by decide +kernel
theorem dX11_tin_9 : decode cX11_tin 9 = .ok (.aload_n 0, 1) := by decide +kernel
theorem dX11_tin_10 : decode cX11_tin 10 = .ok (.getfield 82, 3) := by decide +kernel
theorem dX11_tin_13 : decode cX11_tin 13 = .ok (.aload_n 0, 1) := by decide +kernel
theorem dX11_tin_14 : decode cX11_tin 14 = .ok (.getfield 78, 3) := by decide +kernel
theorem dX11_tin_17 : decode cX11_tin 17 = .ok (.if_icmp .ne 7, 3) := by decide +kernel
theorem dX11_tin_20 : decode cX11_tin 20 = .ok (.iconst 1, 1) := by decide +kernel
theorem dX11_tin_21 : decode cX11_tin 21 = .ok (.goto 4, 3) := by decide +kernel
theorem dX11_tin_24 : decode cX11_tin 24 = .ok (.iconst 0, 1) := by decide +kernel
theorem dX11_tin_25 : decode cX11_tin 25 = .ok (.istore_n 1, 1) := by decide +kernel
theorem dX11_tin_26 : decode cX11_tin 26 = .ok (.aload_n 0, 1) := by decide +kernel
theorem dX11_tin_27 : decode cX11_tin 27 = .ok (.invokevirtual 135, 3) := by decide +kernel
theorem dX11_tin_30 : decode cX11_tin 30 = .ok (.aload_n 0, 1) := by decide +kernel
theorem dX11_tin_31 : decode cX11_tin 31 = .ok (.iconst 0, 1) := by decide +kernel
theorem dX11_tin_32 : decode cX11_tin 32 = .ok (.putfield 78, 3) := by decide +kernel
theorem dX11_tin_35 : decode cX11_tin 35 = .ok (.aload_n 0, 1) := by decide +kernel
theorem dX11_tin_36 : decode cX11_tin 36 = .ok (.aload_n 0, 1) := by decide +kernel
theorem dX11_tin_37 : decode cX11_tin 37 = .ok (.getfield 92, 3) := by decide +kernel
theorem dX11_tin_40 : decode cX11_tin 40 = .ok (.putfield 69, 3) := by decide +kernel
theorem dX11_tin_43 : decode cX11_tin 43 = .ok (.aload_n 0, 1) := by decide +kernel
theorem dX11_tin_44 : decode cX11_tin 44 = .ok (.getfield 89, 3) := by decide +kernel
theorem dX11_tin_47 : decode cX11_tin 47 = .ok (.ifCond .eq 11, 3) := by decide +kernel
theorem dX11_tin_50 : decode cX11_tin 50 = .ok (.bipush (-10), 2) := by decide +kernel
theorem dX11_tin_52 : decode cX11_tin 52 = .ok (.aload_n 0, 1) := by decide +kernel
theorem dX11_tin_53 : decode cX11_tin 53 = .ok (.getfield 89, 3) := by decide +kernel
theorem dX11_tin_56 : decode cX11_tin 56 = .ok (.isub, 1) := by decide +kernel
theorem dX11_tin_57 : decode cX11_tin 57 = .ok (.ireturn, 1) := by decide +kernel
theorem dX11_tin_58 : decode cX11_tin 58 = .ok (.aload_n 0, 1) := by decide +kernel
theorem dX11_tin_59 : decode cX11_tin 59 = .ok (.iload_n 1, 1) := by decide +kernel
theorem dX11_tin_60 : decode cX11_tin 60 = .ok (.ifCond .ne 7, 3) := by decide +kernel
theorem dX11_tin_63 : decode cX11_tin 63 = .ok (.iconst 1, 1) := by decide +kernel
theorem dX11_tin_64 : decode cX11_tin 64 = .ok (.goto 4, 3) := by decide +kernel
theorem dX11_tin_67 : decode cX11_tin 67 = .ok (.iconst 0, 1) := by decide +kernel
theorem dX11_tin_68 : decode cX11_tin 68 = .ok (.putfield 138, 3) := by decide +kernel
theorem dX11_tin_71 : decode cX11_tin 71 = .ok (.aload_n 0, 1) := by decide +kernel
theorem dX11_tin_72 : decode cX11_tin 72 = .ok (.aload_n 0, 1) := by decide +kernel
theorem dX11_tin_73 : decode cX11_tin 73 = .ok (.getfield 129, 3) := by decide +kernel
theorem dX11_tin_76 : decode cX11_tin 76 = .ok (.putfield 142, 3) := by decide +kernel
theorem dX11_tin_79 : decode cX11_tin 79 = .ok (.aload_n 0, 1) := by decide +kernel
theorem dX11_tin_80 : decode cX11_tin 80 = .ok (.aload_n 0, 1) := by decide +kernel
theorem dX11_tin_81 : decode cX11_tin 81 = .ok (.getfield 110, 3) := by decide +kernel
theorem dX11_tin_84 : decode cX11_tin 84 = .ok (.putfield 145, 3) := by decide +kernel
theorem dX11_tin_87 : decode cX11_tin 87 = .ok (.aload_n 0, 1) := by decide +kernel
theorem dX11_tin_88 : decode cX11_tin 88 = .ok (.aload_n 0, 1) := by decide +kernel
theorem dX11_tin_89 : decode cX11_tin 89 = .ok (.getfield 117, 3) := by decide +kernel
theorem dX11_tin_92 : decode cX11_tin 92 = .ok (.putfield 148, 3) := by decide +kernel
theorem dX11_tin_95 : decode cX11_tin 95 = .ok (.aload_n 0, 1) := by decide +kernel
theorem dX11_tin_96 : decode cX11_tin 96 = .ok (.aload_n 0, 1) := by decide +kernel
theorem dX11_tin_97 : decode cX11_tin 97 = .ok (.getfield 120, 3) := by decide +kernel
theorem dX11_tin_100 : decode cX11_tin 100 = .ok (.putfield 151, 3) := by decide +kernel
theorem dX11_tin_103 : decode cX11_tin 103 = .ok (.aload_n 0, 1) := by decide +kernel
theorem dX11_tin_104 : decode cX11_tin 104 = .ok (.aload_n 0, 1) := by decide +kernel
theorem dX11_tin_105 : decode cX11_tin 105 = .ok (.getfield 123, 3) := by decide +kernel
theorem dX11_tin_108 : decode cX11_tin 108 = .ok (.putfield 154, 3) := by decide +kernel
theorem dX11_tin_111 : decode cX11_tin 111 = .ok (.iconst 0, 1) := by decide +kernel
theorem dX11_tin_112 : decode cX11_tin 112 = .ok (.istore_n 2, 1) := by decide +kernel
theorem dX11_tin_113 : decode cX11_tin 113 = .ok (.iload_n 2, 1) := by decide +kernel
theorem dX11_tin_114 : decode cX11_tin 114 = .ok (.bipush 48, 2) := by decide +kernel
theorem dX11_tin_116 : decode cX11_tin 116 = .ok (.if_icmp .ge 21, 3) := by decide +kernel
theorem dX11_tin_119 : decode cX11_tin 119 = .ok (.aload_n 0, 1) := by decide +kernel
theorem dX11_tin_120 : decode cX11_tin 120 = .ok (.getfield 13, 3) := by decide +kernel
theorem dX11_tin_123 : decode cX11_tin 123 = .ok (.iload_n 2, 1) := by decide +kernel
theorem dX11_tin_124 : decode cX11_tin 124 = .ok (.aload_n 0, 1) := by decide +kernel
theorem dX11_tin_125 : decode cX11_tin 125 = .ok (.getfield 26, 3) := by decide +kernel
theorem dX11_tin_128 : decode cX11_tin 128 = .ok (.iload_n 2, 1) := by decide +kernel
theorem dX11_tin_129 : decode cX11_tin 129 = .ok (.iaload, 1) := by decide +kernel
theorem dX11_tin_130 : decode cX11_tin 130 = .ok (.iastore, 1) := by decide +kernel
theorem dX11_tin_131 : decode cX11_tin 131 = .ok (.iinc 2 1, 3) := by decide +kernel
theorem dX11_tin_134 : decode cX11_tin 134 = .ok (.goto (-21), 3) := by decide +kernel
theorem dX11_tin_137 : decode cX11_tin 137 = .ok (.iconst 0, 1) := by decide +kernel
theorem dX11_tin_138 : decode cX11_tin 138 = .ok (.istore_n 2, 1) := by decide +kernel
theorem dX11_tin_139 : decode cX11_tin 139 = .ok (.iload_n 2, 1) := by decide +kernel
theorem dX11_tin_140 : decode cX11_tin 140 = .ok (.bipush 24, 2) := by decide +kernel
theorem dX11_tin_142 : decode cX11_tin 142 = .ok (.if_icmp .ge 21, 3) := by decide +kernel
theorem dX11_tin_145 : decode cX11_tin 145 = .ok (.aload_n 0, 1) := by decide +kernel
theorem dX11_tin_146 : decode cX11_tin 146 = .ok (.getfield 17, 3) := by decide +kernel
theorem dX11_tin_149 : decode cX11_tin 149 = .ok (.iload_n 2, 1) := by decide +kernel
theorem dX11_tin_150 : decode cX11_tin 150 = .ok (.aload_n 0, 1) := by decide +kernel
theorem dX11_tin_151 : decode cX11_tin 151 = .ok (.getfield 29, 3) := by decide +kernel
theorem dX11_tin_154 : decode cX11_tin 154 = .ok (.iload_n 2, 1) := by decide +kernel
theorem dX11_tin_155 : decode cX11_tin 155 = .ok (.iaload, 1) := by decide +kernel
theorem dX11_tin_156 : decode cX11_tin 156 = .ok (.iastore, 1) := by decide +kernel
theorem dX11_tin_157 : decode cX11_tin 157 = .ok (.iinc 2 1, 3) := by decide +kernel
theorem dX11_tin_160 : decode cX11_tin 160 = .ok (.goto (-21), 3) := by decide +kernel
theorem dX11_tin_163 : decode cX11_tin 163 = .ok (.iconst 0, 1) := by decide +kernel
theorem dX11_tin_164 : decode cX11_tin 164 = .ok (.istore_n 2, 1) := by decide +kernel
theorem dX11_tin_165 : decode cX11_tin 165 = .ok (.iload_n 2, 1) := by decide +kernel
theorem dX11_tin_166 : decode cX11_tin 166 = .ok (.bipush 20, 2) := by decide +kernel
theorem dX11_tin_168 : decode cX11_tin 168 = .ok (.if_icmp .ge 21, 3) := by decide +kernel
theorem dX11_tin_171 : decode cX11_tin 171 = .ok (.aload_n 0, 1) := by decide +kernel
theorem dX11_tin_172 : decode cX11_tin 172 = .ok (.getfield 20, 3) := by decide +kernel
theorem dX11_tin_175 : decode cX11_tin 175 = .ok (.iload_n 2, 1) := by decide +kernel
theorem dX11_tin_176 : decode cX11_tin 176 = .ok (.aload_n 0, 1) := by decide +kernel
theorem dX11_tin_177 : decode cX11_tin 177 = .ok (.getfield 32, 3) := by decide +kernel
theorem dX11_tin_180 : decode cX11_tin 180 = .ok (.iload_n 2, 1) := by decide +kernel
theorem dX11_tin_181 : decode cX11_tin 181 = .ok (.iaload, 1) := by decide +kernel
theorem dX11_tin_182 : decode cX11_tin 182 = .ok (.iastore, 1) := by decide +kernel
theorem dX11_tin_183 : decode cX11_tin 183 = .ok (.iinc 2 1, 3) := by decide +kernel
theorem dX11_tin_186 : decode cX11_tin 186 = .ok (.goto (-21), 3) := by decide +kernel
theorem dX11_tin_189 : decode cX11_tin 189 = .ok (.iconst 0, 1) := by decide +kernel
theorem dX11_tin_190 : decode cX11_tin 190 = .ok (.istore_n 2, 1) := by decide +kernel
theorem dX11_tin_191 : decode cX11_tin 191 = .ok (.iload_n 2, 1) := by decide +kernel
theorem dX11_tin_192 : decode cX11_tin 192 = .ok (.iconst 5, 1) := by decide +kernel
theorem dX11_tin_193 : decode cX11_tin 193 = .ok (.if_icmp .ge 21, 3) := by decide +kernel
theorem dX11_tin_196 : decode cX11_tin 196 = .ok (.aload_n 0, 1) := by decide +kernel
theorem dX11_tin_197 : decode cX11_tin 197 = .ok (.getfield 23, 3) := by decide +kernel
theorem dX11_tin_200 : decode cX11_tin 200 = .ok (.iload_n 2, 1) := by decide +kernel
theorem dX11_tin_201 : decode cX11_tin 201 = .ok (.aload_n 0, 1) := by decide +kernel
theorem dX11_tin_202 : decode cX11_tin 202 = .ok (.getfield 35, 3) := by decide +kernel
theorem dX11_tin_205 : decode cX11_tin 205 = .ok (.iload_n 2, 1) := by decide +kernel
theorem dX11_tin_206 : decode cX11_tin 206 = .ok (.iaload, 1) := by decide +kernel
theorem dX11_tin_207 : decode cX11_tin 207 = .ok (.iastore, 1) := by decide +kernel
theorem dX11_tin_208 : decode cX11_tin 208 = .ok (.iinc 2 1, 3) := by decide +kernel
theorem dX11_tin_211 : decode cX11_tin 211 = .ok (.goto (-20), 3) := by decide +kernel
theorem dX11_tin_214 : decode cX11_tin 214 = .ok (.iconst 0, 1) := by decide +kernel
theorem dX11_tin_215 : decode cX11_tin 215 = .ok (.istore_n 2, 1) := by decide +kernel
theorem dX11_tin_216 : decode cX11_tin 216 = .ok (.iload_n 2, 1) := by decide +kernel
theorem dX11_tin_217 : decode cX11_tin 217 = .ok (.bipush 31, 2) := by decide +kernel
theorem dX11_tin_219 : decode cX11_tin 219 = .ok (.if_icmp .ge 16, 3) := by decide +kernel
theorem dX11_tin_222 : decode cX11_tin 222 = .ok (.aload_n 0, 1) := by decide +kernel
theorem dX11_tin_223 : decode cX11_tin 223 = .ok (.getfield 38, 3) := by decide +kernel
theorem dX11_tin_226 : decode cX11_tin 226 = .ok (.iload_n 2, 1) := by decide +kernel
theorem dX11_tin_227 : decode cX11_tin 227 = .ok (.iconst 0, 1) := by decide +kernel
theorem dX11_tin_228 : decode cX11_tin 228 = .ok (.iastore, 1) := by decide +kernel
theorem dX11_tin_229 : decode cX11_tin 229 = .ok (.iinc 2 1, 3) := by decide +kernel
theorem dX11_tin_232 : decode cX11_tin 232 = .ok (.goto (-16), 3) := by decide +kernel
theorem dX11_tin_235 : decode cX11_tin 235 = .ok (.iconst 0, 1) := by decide +kernel
theorem dX11_tin_236 : decode cX11_tin 236 = .ok (.istore_n 2, 1) := by decide +kernel
theorem dX11_tin_237 : decode cX11_tin 237 = .ok (.iload_n 2, 1) := by decide +kernel
theorem dX11_tin_238 : decode cX11_tin 238 = .ok (.aload_n 0, 1) := by decide +kernel
theorem dX11_tin_239 : decode cX11_tin 239 = .ok (.getfield 145, 3) := by decide +kernel
theorem dX11_tin_242 : decode cX11_tin 242 = .ok (.if_icmp .ge 28, 3) := by decide +kernel
theorem dX11_tin_245 : decode cX11_tin 245 = .ok (.aload_n 0, 1) := by decide +kernel
theorem dX11_tin_246 : decode cX11_tin 246 = .ok (.getfield 38, 3) := by decide +kernel
theorem dX11_tin_249 : decode cX11_tin 249 = .ok (.bipush 12, 2) := by decide +kernel
theorem dX11_tin_251 : decode cX11_tin 251 = .ok (.iload_n 2, 1) := by decide +kernel
theorem dX11_tin_252 : decode cX11_tin 252 = .ok (.iadd, 1) := by decide +kernel
theorem dX11_tin_253 : decode cX11_tin 253 = .ok (.aload_n 0, 1) := by decide +kernel
theorem dX11_tin_254 : decode cX11_tin 254 = .ok (.getfield 13, 3) := by decide +kernel
theorem dX11_tin_257 : decode cX11_tin 257 = .ok (.iconst 4, 1) := by decide +kernel
theorem dX11_tin_258 : decode cX11_tin 258 = .ok (.iload_n 2, 1) := by decide +kernel
theorem dX11_tin_259 : decode cX11_tin 259 = .ok (.imul, 1) := by decide +kernel
theorem dX11_tin_260 : decode cX11_tin 260 = .ok (.iconst 3, 1) := by decide +kernel
theorem dX11_tin_261 : decode cX11_tin 261 = .ok (.iadd, 1) := by decide +kernel
theorem dX11_tin_262 : decode cX11_tin 262 = .ok (.iaload, 1) := by decide +kernel
theorem dX11_tin_263 : decode cX11_tin 263 = .ok (.iastore, 1) := by decide +kernel
theorem dX11_tin_264 : decode cX11_tin 264 = .ok (.iinc 2 1, 3) := by decide +kernel
theorem dX11_tin_267 : decode cX11_tin 267 = .ok (.goto (-30), 3) := by decide +kernel
theorem dX11_tin_270 : decode cX11_tin 270 = .ok (.iconst 0, 1) := by decide +kernel
theorem dX11_tin_271 : decode cX11_tin 271 = .ok (.istore_n 2, 1) := by decide +kernel
theorem dX11_tin_272 : decode cX11_tin 272 = .ok (.iload_n 2, 1) := by decide +kernel
theorem dX11_tin_273 : decode cX11_tin 273 = .ok (.bipush 6, 2) := by decide +kernel
theorem dX11_tin_275 : decode cX11_tin 275 = .ok (.if_icmp .ge 19, 3) := by decide +kernel
theorem dX11_tin_278 : decode cX11_tin 278 = .ok (.aload_n 0, 1) := by decide +kernel
theorem dX11_tin_279 : decode cX11_tin 279 = .ok (.getfield 38, 3) := by decide +kernel
theorem dX11_tin_282 : decode cX11_tin 282 = .ok (.bipush 24, 2) := by decide +kernel
theorem dX11_tin_284 : decode cX11_tin 284 = .ok (.iload_n 2, 1) := by decide +kernel
theorem dX11_tin_285 : decode cX11_tin 285 = .ok (.iadd, 1) := by decide +kernel
theorem dX11_tin_286 : decode cX11_tin 286 = .ok (.iload_n 2, 1) := by decide +kernel
theorem dX11_tin_287 : decode cX11_tin 287 = .ok (.iastore, 1) := by decide +kernel
theorem dX11_tin_288 : decode cX11_tin 288 = .ok (.iinc 2 1, 3) := by decide +kernel
theorem dX11_tin_291 : decode cX11_tin 291 = .ok (.goto (-19), 3) := by decide +kernel
theorem dX11_tin_294 : decode cX11_tin 294 = .ok (.aload_n 0, 1) := by decide +kernel
theorem dX11_tin_295 : decode cX11_tin 295 = .ok (.iconst 0, 1) := by decide +kernel
theorem dX11_tin_296 : decode cX11_tin 296 = .ok (.putfield 157, 3) := by decide +kernel
theorem dX11_tin_299 : decode cX11_tin 299 = .ok (.aload_n 0, 1) := by decide +kernel
theorem dX11_tin_300 : decode cX11_tin 300 = .ok (.iconst 0, 1) := by decide +kernel
theorem dX11_tin_301 : decode cX11_tin 301 = .ok (.putfield 160, 3) := by decide +kernel
theorem dX11_tin_304 : decode cX11_tin 304 = .ok (.aload_n 0, 1) := by decide +kernel
theorem dX11_tin_305 : decode cX11_tin 305 = .ok (.getfield 50, 3) := by decide +kernel
theorem dX11_tin_308 : decode cX11_tin 308 = .ok (.iconst 0, 1) := by decide +kernel
theorem dX11_tin_309 : decode cX11_tin 309 = .ok (.iconst 0, 1) := by decide +kernel
theorem dX11_tin_310 : decode cX11_tin 310 = .ok (.bastore, 1) := by decide +kernel
theorem dX11_tin_311 : decode cX11_tin 311 = .ok (.aload_n 0, 1) := by decide +kernel
theorem dX11_tin_312 : decode cX11_tin 312 = .ok (.getfield 50, 3) := by decide +kernel
theorem dX11_tin_315 : decode cX11_tin 315 = .ok (.iconst 1, 1) := by decide +kernel
theorem dX11_tin_316 : decode cX11_tin 316 = .ok (.iconst 0, 1) := by decide +kernel
theorem dX11_tin_317 : decode cX11_tin 317 = .ok (.bastore, 1) := by decide +kernel
theorem dX11_tin_318 : decode cX11_tin 318 = .ok (.aload_n 0, 1) := by decide +kernel
theorem dX11_tin_319 : decode cX11_tin 319 = .ok (.getfield 145, 3) := by decide +kernel
theorem dX11_tin_322 : decode cX11_tin 322 = .ok (.ireturn, 1) := by decide +kernel
theorem dX11_fault_0 : decode cX11_fault 0 = .ok (.aload_n 0, 1) := by decide +kernel
theorem dX11_fault_1 : decode cX11_fault 1 = .ok (.getfield 69, 3) := by decide +kernel
theorem dX11_fault_4 : decode cX11_fault 4 = .ok (.ireturn, 1) := by decide +kernel
theorem dX11_isButton_0 : decode cX11_isButton 0 = .ok (.iload_n 1, 1) := by decide +kernel
theorem dX11_isButton_1 : decode cX11_isButton 1 = .ok (.iconst 0, 1) := by decide +kernel
theorem dX11_isButton_2 : decode cX11_isButton 2 = .ok (.aload_n 0, 1) := by decide +kernel
theorem dX11_isButton_3 : decode cX11_isButton 3 = .ok (.getfield 145, 3) := by decide +kernel
theorem dX11_isButton_6 : decode cX11_isButton 6 = .ok (.iconst 1, 1) := by decide +kernel
theorem dX11_isButton_7 : decode cX11_isButton 7 = .ok (.isub, 1) := by decide +kernel
theorem dX11_isButton_8 : decode cX11_isButton 8 = .ok (.invokestatic 73, 3) := by decide +kernel
theorem dX11_isButton_11 : decode cX11_isButton 11 = .ok (.ireturn, 1) := by decide +kernel
theorem dX11_isRule_0 : decode cX11_isRule 0 = .ok (.iload_n 1, 1) := by decide +kernel
theorem dX11_isRule_1 : decode cX11_isRule 1 = .ok (.iconst 0, 1) := by decide +kernel
theorem dX11_isRule_2 : decode cX11_isRule 2 = .ok (.aload_n 0, 1) := by decide +kernel
theorem dX11_isRule_3 : decode cX11_isRule 3 = .ok (.getfield 148, 3) := by decide +kernel
theorem dX11_isRule_6 : decode cX11_isRule 6 = .ok (.iconst 1, 1) := by decide +kernel
theorem dX11_isRule_7 : decode cX11_isRule 7 = .ok (.isub, 1) := by decide +kernel
theorem dX11_isRule_8 : decode cX11_isRule 8 = .ok (.invokestatic 73, 3) := by decide +kernel
theorem dX11_isRule_11 : decode cX11_isRule 11 = .ok (.ireturn, 1) := by decide +kernel
theorem dX11_isCause_0 : decode cX11_isCause 0 = .ok (.iload_n 1, 1) := by decide +kernel
theorem dX11_isCause_1 : decode cX11_isCause 1 = .ok (.iconst 0, 1) := by decide +kernel
theorem dX11_isCause_2 : decode cX11_isCause 2 = .ok (.aload_n 0, 1) := by decide +kernel
theorem dX11_isCause_3 : decode cX11_isCause 3 = .ok (.getfield 151, 3) := by decide +kernel
theorem dX11_isCause_6 : decode cX11_isCause 6 = .ok (.iconst 1, 1) := by decide +kernel
theorem dX11_isCause_7 : decode cX11_isCause 7 = .ok (.isub, 1) := by decide +kernel
theorem dX11_isCause_8 : decode cX11_isCause 8 = .ok (.invokestatic 73, 3) := by decide +kernel
theorem dX11_isCause_11 : decode cX11_isCause 11 = .ok (.ireturn, 1) := by decide +kernel
theorem dX11_isNeed_0 : decode cX11_isNeed 0 = .ok (.iload_n 1, 1) := by decide +kernel
theorem dX11_isNeed_1 : decode cX11_isNeed 1 = .ok (.iconst 0, 1) := by decide +kernel
theorem dX11_isNeed_2 : decode cX11_isNeed 2 = .ok (.aload_n 0, 1) := by decide +kernel
theorem dX11_isNeed_3 : decode cX11_isNeed 3 = .ok (.getfield 154, 3) := by decide +kernel
theorem dX11_isNeed_6 : decode cX11_isNeed 6 = .ok (.iconst 1, 1) := by decide +kernel
theorem dX11_isNeed_7 : decode cX11_isNeed 7 = .ok (.isub, 1) := by decide +kernel
theorem dX11_isNeed_8 : decode cX11_isNeed 8 = .ok (.invokestatic 73, 3) := by decide +kernel
theorem dX11_isNeed_11 : decode cX11_isNeed 11 = .ok (.ireturn, 1) := by decide +kernel
theorem dX11_isHeap_0 : decode cX11_isHeap 0 = .ok (.iload_n 0, 1) := by decide +kernel
theorem dX11_isHeap_1 : decode cX11_isHeap 1 = .ok (.iconst 0, 1) := by decide +kernel
theorem dX11_isHeap_2 : decode cX11_isHeap 2 = .ok (.iconst 5, 1) := by decide +kernel
theorem dX11_isHeap_3 : decode cX11_isHeap 3 = .ok (.invokestatic 73, 3) := by decide +kernel
theorem dX11_isHeap_6 : decode cX11_isHeap 6 = .ok (.ireturn, 1) := by decide +kernel
theorem dX11_markOf_0 : decode cX11_markOf 0 = .ok (.iload_n 2, 1) := by decide +kernel
theorem dX11_markOf_1 : decode cX11_markOf 1 = .ok (.iconst 3, 1) := by decide +kernel
theorem dX11_markOf_2 : decode cX11_markOf 2 = .ok (.if_icmp .ne 15, 3) := by decide +kernel
theorem dX11_markOf_5 : decode cX11_markOf 5 = .ok (.aload_n 0, 1) := by decide +kernel
theorem dX11_markOf_6 : decode cX11_markOf 6 = .ok (.getfield 38, 3) := by decide +kernel
theorem dX11_markOf_9 : decode cX11_markOf 9 = .ok (.bipush 12, 2) := by decide +kernel
theorem dX11_markOf_11 : decode cX11_markOf 11 = .ok (.iload_n 1, 1) := by decide +kernel
theorem dX11_markOf_12 : decode cX11_markOf 12 = .ok (.iadd, 1) := by decide +kernel
theorem dX11_markOf_13 : decode cX11_markOf 13 = .ok (.iaload, 1) := by decide +kernel
theorem dX11_markOf_14 : decode cX11_markOf 14 = .ok (.goto 13, 3) := by decide +kernel
theorem dX11_markOf_17 : decode cX11_markOf 17 = .ok (.aload_n 0, 1) := by decide +kernel
theorem dX11_markOf_18 : decode cX11_markOf 18 = .ok (.getfield 13, 3) := by decide +kernel
theorem dX11_markOf_21 : decode cX11_markOf 21 = .ok (.iconst 4, 1) := by decide +kernel
theorem dX11_markOf_22 : decode cX11_markOf 22 = .ok (.iload_n 1, 1) := by decide +kernel
theorem dX11_markOf_23 : decode cX11_markOf 23 = .ok (.imul, 1) := by decide +kernel
theorem dX11_markOf_24 : decode cX11_markOf 24 = .ok (.iload_n 2, 1) := by decide +kernel
theorem dX11_markOf_25 : decode cX11_markOf 25 = .ok (.iadd, 1) := by decide +kernel
theorem dX11_markOf_26 : decode cX11_markOf 26 = .ok (.iaload, 1) := by decide +kernel
theorem dX11_markOf_27 : decode cX11_markOf 27 = .ok (.ireturn, 1) := by decide +kernel
theorem dX11_holds_0 : decode cX11_holds 0 = .ok (.aload_n 0, 1) := by decide +kernel
theorem dX11_holds_1 : decode cX11_holds 1 = .ok (.iload_n 1, 1) := by decide +kernel
theorem dX11_holds_2 : decode cX11_holds 2 = .ok (.iconst 0, 1) := by decide +kernel
theorem dX11_holds_3 : decode cX11_holds 3 = .ok (.invokevirtual 163, 3) := by decide +kernel
theorem dX11_holds_6 : decode cX11_holds 6 = .ok (.iconst 1, 1) := by decide +kernel
theorem dX11_holds_7 : decode cX11_holds 7 = .ok (.iadd, 1) := by decide +kernel
theorem dX11_holds_8 : decode cX11_holds 8 = .ok (.aload_n 0, 1) := by decide +kernel
theorem dX11_holds_9 : decode cX11_holds 9 = .ok (.iload_n 1, 1) := by decide +kernel
theorem dX11_holds_10 : decode cX11_holds 10 = .ok (.iconst 1, 1) := by decide +kernel
theorem dX11_holds_11 : decode cX11_holds 11 = .ok (.invokevirtual 163, 3) := by decide +kernel
theorem dX11_holds_14 : decode cX11_holds 14 = .ok (.imul, 1) := by decide +kernel
theorem dX11_holds_15 : decode cX11_holds 15 = .ok (.iconst 5, 1) := by decide +kernel
theorem dX11_holds_16 : decode cX11_holds 16 = .ok (.aload_n 0, 1) := by decide +kernel
theorem dX11_holds_17 : decode cX11_holds 17 = .ok (.getfield 38, 3) := by decide +kernel
theorem dX11_holds_20 : decode cX11_holds 20 = .ok (.bipush 12, 2) := by decide +kernel
theorem dX11_holds_22 : decode cX11_holds 22 = .ok (.iload_n 1, 1) := by decide +kernel
theorem dX11_holds_23 : decode cX11_holds 23 = .ok (.iadd, 1) := by decide +kernel
theorem dX11_holds_24 : decode cX11_holds 24 = .ok (.iaload, 1) := by decide +kernel
theorem dX11_holds_25 : decode cX11_holds 25 = .ok (.imul, 1) := by decide +kernel
theorem dX11_holds_26 : decode cX11_holds 26 = .ok (.isub, 1) := by decide +kernel
theorem dX11_holds_27 : decode cX11_holds 27 = .ok (.istore_n 2, 1) := by decide +kernel
theorem dX11_holds_28 : decode cX11_holds 28 = .ok (.iload_n 2, 1) := by decide +kernel
theorem dX11_holds_29 : decode cX11_holds 29 = .ok (.ifCond .ge 7, 3) := by decide +kernel
theorem dX11_holds_32 : decode cX11_holds 32 = .ok (.iconst 0, 1) := by decide +kernel
theorem dX11_holds_33 : decode cX11_holds 33 = .ok (.goto 4, 3) := by decide +kernel
theorem dX11_holds_36 : decode cX11_holds 36 = .ok (.iload_n 2, 1) := by decide +kernel
theorem dX11_holds_37 : decode cX11_holds 37 = .ok (.ireturn, 1) := by decide +kernel
theorem dX11_isBy_0 : decode cX11_isBy 0 = .ok (.iload_n 0, 1) := by decide +kernel
theorem dX11_isBy_1 : decode cX11_isBy 1 = .ok (.ifCond .ne 16, 3) := by decide +kernel
theorem dX11_isBy_4 : decode cX11_isBy 4 = .ok (.iload_n 2, 1) := by decide +kernel
theorem dX11_isBy_5 : decode cX11_isBy 5 = .ok (.iload_n 1, 1) := by decide +kernel
theorem dX11_isBy_6 : decode cX11_isBy 6 = .ok (.if_icmp .ne 7, 3) := by decide +kernel
theorem dX11_isBy_9 : decode cX11_isBy 9 = .ok (.iconst 1, 1) := by decide +kernel
theorem dX11_isBy_10 : decode cX11_isBy 10 = .ok (.goto 35, 3) := by decide +kernel
theorem dX11_isBy_13 : decode cX11_isBy 13 = .ok (.iconst 0, 1) := by decide +kernel
theorem dX11_isBy_14 : decode cX11_isBy 14 = .ok (.goto 31, 3) := by decide +kernel
theorem dX11_isBy_17 : decode cX11_isBy 17 = .ok (.iload_n 0, 1) := by decide +kernel
theorem dX11_isBy_18 : decode cX11_isBy 18 = .ok (.iconst 1, 1) := by decide +kernel
theorem dX11_isBy_19 : decode cX11_isBy 19 = .ok (.if_icmp .ne 16, 3) := by decide +kernel
theorem dX11_isBy_22 : decode cX11_isBy 22 = .ok (.iload_n 2, 1) := by decide +kernel
theorem dX11_isBy_23 : decode cX11_isBy 23 = .ok (.iload_n 1, 1) := by decide +kernel
theorem dX11_isBy_24 : decode cX11_isBy 24 = .ok (.if_icmp .lt 7, 3) := by decide +kernel
theorem dX11_isBy_27 : decode cX11_isBy 27 = .ok (.iconst 1, 1) := by decide +kernel
theorem dX11_isBy_28 : decode cX11_isBy 28 = .ok (.goto 17, 3) := by decide +kernel
theorem dX11_isBy_31 : decode cX11_isBy 31 = .ok (.iconst 0, 1) := by decide +kernel
theorem dX11_isBy_32 : decode cX11_isBy 32 = .ok (.goto 13, 3) := by decide +kernel
theorem dX11_isBy_35 : decode cX11_isBy 35 = .ok (.iload_n 2, 1) := by decide +kernel
theorem dX11_isBy_36 : decode cX11_isBy 36 = .ok (.iload_n 1, 1) := by decide +kernel
theorem dX11_isBy_37 : decode cX11_isBy 37 = .ok (.if_icmp .gt 7, 3) := by decide +kernel
theorem dX11_isBy_40 : decode cX11_isBy 40 = .ok (.iconst 1, 1) := by decide +kernel
theorem dX11_isBy_41 : decode cX11_isBy 41 = .ok (.goto 4, 3) := by decide +kernel
theorem dX11_isBy_44 : decode cX11_isBy 44 = .ok (.iconst 0, 1) := by decide +kernel
theorem dX11_isBy_45 : decode cX11_isBy 45 = .ok (.ireturn, 1) := by decide +kernel
theorem dX11_passes_0 : decode cX11_passes 0 = .ok (.iload_n 1, 1) := by decide +kernel
theorem dX11_passes_1 : decode cX11_passes 1 = .ok (.bipush 10, 2) := by decide +kernel
theorem dX11_passes_3 : decode cX11_passes 3 = .ok (.idiv, 1) := by decide +kernel
theorem dX11_passes_4 : decode cX11_passes 4 = .ok (.iconst 3, 1) := by decide +kernel
theorem dX11_passes_5 : decode cX11_passes 5 = .ok (.irem, 1) := by decide +kernel
theorem dX11_passes_6 : decode cX11_passes 6 = .ok (.iload_n 1, 1) := by decide +kernel
theorem dX11_passes_7 : decode cX11_passes 7 = .ok (.bipush 10, 2) := by decide +kernel
theorem dX11_passes_9 : decode cX11_passes 9 = .ok (.irem, 1) := by decide +kernel
theorem dX11_passes_10 : decode cX11_passes 10 = .ok (.aload_n 0, 1) := by decide +kernel
theorem dX11_passes_11 : decode cX11_passes 11 = .ok (.iload_n 2, 1) := by decide +kernel
theorem dX11_passes_12 : decode cX11_passes 12 = .ok (.iload_n 1, 1) := by decide +kernel
theorem dX11_passes_13 : decode cX11_passes 13 = .ok (.bipush 30, 2) := by decide +kernel
theorem dX11_passes_15 : decode cX11_passes 15 = .ok (.idiv, 1) := by decide +kernel
theorem dX11_passes_16 : decode cX11_passes 16 = .ok (.invokevirtual 163, 3) := by decide +kernel
theorem dX11_passes_19 : decode cX11_passes 19 = .ok (.invokestatic 166, 3) := by decide +kernel
theorem dX11_passes_22 : decode cX11_passes 22 = .ok (.ireturn, 1) := by decide +kernel
theorem dX11_passesRule_0 : decode cX11_passesRule 0 = .ok (.aload_n 0, 1) := by decide +kernel
theorem dX11_passesRule_1 : decode cX11_passesRule 1 = .ok (.getfield 17, 3) := by decide +kernel
theorem dX11_passesRule_4 : decode cX11_passesRule 4 = .ok (.iconst 4, 1) := by decide +kernel
theorem dX11_passesRule_5 : decode cX11_passesRule 5 = .ok (.iload_n 1, 1) := by decide +kernel
theorem dX11_passesRule_6 : decode cX11_passesRule 6 = .ok (.imul, 1) := by decide +kernel
theorem dX11_passesRule_7 : decode cX11_passesRule 7 = .ok (.iconst 1, 1) := by decide +kernel
theorem dX11_passesRule_8 : decode cX11_passesRule 8 = .ok (.iadd, 1) := by decide +kernel
theorem dX11_passesRule_9 : decode cX11_passesRule 9 = .ok (.iaload, 1) := by decide +kernel
theorem dX11_passesRule_10 : decode cX11_passesRule 10 = .ok (.aload_n 0, 1) := by decide +kernel
theorem dX11_passesRule_11 : decode cX11_passesRule 11 = .ok (.getfield 17, 3) := by decide +kernel
theorem dX11_passesRule_14 : decode cX11_passesRule 14 = .ok (.iconst 4, 1) := by decide +kernel
theorem dX11_passesRule_15 : decode cX11_passesRule 15 = .ok (.iload_n 1, 1) := by decide +kernel
theorem dX11_passesRule_16 : decode cX11_passesRule 16 = .ok (.imul, 1) := by decide +kernel
theorem dX11_passesRule_17 : decode cX11_passesRule 17 = .ok (.iconst 2, 1) := by decide +kernel
theorem dX11_passesRule_18 : decode cX11_passesRule 18 = .ok (.iadd, 1) := by decide +kernel
theorem dX11_passesRule_19 : decode cX11_passesRule 19 = .ok (.iaload, 1) := by decide +kernel
theorem dX11_passesRule_20 : decode cX11_passesRule 20 = .ok (.aload_n 0, 1) := by decide +kernel
theorem dX11_passesRule_21 : decode cX11_passesRule 21 = .ok (.iload_n 2, 1) := by decide +kernel
theorem dX11_passesRule_22 : decode cX11_passesRule 22 = .ok (.aload_n 0, 1) := by decide +kernel
theorem dX11_passesRule_23 : decode cX11_passesRule 23 = .ok (.getfield 17, 3) := by decide +kernel
theorem dX11_passesRule_26 : decode cX11_passesRule 26 = .ok (.iconst 4, 1) := by decide +kernel
theorem dX11_passesRule_27 : decode cX11_passesRule 27 = .ok (.iload_n 1, 1) := by decide +kernel
theorem dX11_passesRule_28 : decode cX11_passesRule 28 = .ok (.imul, 1) := by decide +kernel
theorem dX11_passesRule_29 : decode cX11_passesRule 29 = .ok (.iaload, 1) := by decide +kernel
theorem dX11_passesRule_30 : decode cX11_passesRule 30 = .ok (.invokevirtual 163, 3) := by decide +kernel
theorem dX11_passesRule_33 : decode cX11_passesRule 33 = .ok (.invokestatic 166, 3) := by decide +kernel
theorem dX11_passesRule_36 : decode cX11_passesRule 36 = .ok (.ireturn, 1) := by decide +kernel
theorem dX11_ruleOf_0 : decode cX11_ruleOf 0 = .ok (.iconst (-1), 1) := by decide +kernel
theorem dX11_ruleOf_1 : decode cX11_ruleOf 1 = .ok (.istore_n 2, 1) := by decide +kernel
theorem dX11_ruleOf_2 : decode cX11_ruleOf 2 = .ok (.aload_n 0, 1) := by decide +kernel
theorem dX11_ruleOf_3 : decode cX11_ruleOf 3 = .ok (.getfield 148, 3) := by decide +kernel
theorem dX11_ruleOf_6 : decode cX11_ruleOf 6 = .ok (.iconst 1, 1) := by decide +kernel
theorem dX11_ruleOf_7 : decode cX11_ruleOf 7 = .ok (.isub, 1) := by decide +kernel
theorem dX11_ruleOf_8 : decode cX11_ruleOf 8 = .ok (.istore_n 3, 1) := by decide +kernel
theorem dX11_ruleOf_9 : decode cX11_ruleOf 9 = .ok (.iload_n 3, 1) := by decide +kernel
theorem dX11_ruleOf_10 : decode cX11_ruleOf 10 = .ok (.ifCond .lt 40, 3) := by decide +kernel
theorem dX11_ruleOf_13 : decode cX11_ruleOf 13 = .ok (.aload_n 0, 1) := by decide +kernel
theorem dX11_ruleOf_14 : decode cX11_ruleOf 14 = .ok (.aload_n 0, 1) := by decide +kernel
theorem dX11_ruleOf_15 : decode cX11_ruleOf 15 = .ok (.getfield 38, 3) := by decide +kernel
theorem dX11_ruleOf_18 : decode cX11_ruleOf 18 = .ok (.bipush 24, 2) := by decide +kernel
theorem dX11_ruleOf_20 : decode cX11_ruleOf 20 = .ok (.iload_n 3, 1) := by decide +kernel
theorem dX11_ruleOf_21 : decode cX11_ruleOf 21 = .ok (.iadd, 1) := by decide +kernel
theorem dX11_ruleOf_22 : decode cX11_ruleOf 22 = .ok (.iaload, 1) := by decide +kernel
theorem dX11_ruleOf_23 : decode cX11_ruleOf 23 = .ok (.iload_n 1, 1) := by decide +kernel
theorem dX11_ruleOf_24 : decode cX11_ruleOf 24 = .ok (.invokevirtual 169, 3) := by decide +kernel
theorem dX11_ruleOf_27 : decode cX11_ruleOf 27 = .ok (.ifCond .eq 15, 3) := by decide +kernel
theorem dX11_ruleOf_30 : decode cX11_ruleOf 30 = .ok (.aload_n 0, 1) := by decide +kernel
theorem dX11_ruleOf_31 : decode cX11_ruleOf 31 = .ok (.getfield 38, 3) := by decide +kernel
theorem dX11_ruleOf_34 : decode cX11_ruleOf 34 = .ok (.bipush 24, 2) := by decide +kernel
theorem dX11_ruleOf_36 : decode cX11_ruleOf 36 = .ok (.iload_n 3, 1) := by decide +kernel
theorem dX11_ruleOf_37 : decode cX11_ruleOf 37 = .ok (.iadd, 1) := by decide +kernel
theorem dX11_ruleOf_38 : decode cX11_ruleOf 38 = .ok (.iaload, 1) := by decide +kernel
theorem dX11_ruleOf_39 : decode cX11_ruleOf 39 = .ok (.goto 4, 3) := by decide +kernel
theorem dX11_ruleOf_42 : decode cX11_ruleOf 42 = .ok (.iload_n 2, 1) := by decide +kernel
theorem dX11_ruleOf_43 : decode cX11_ruleOf 43 = .ok (.istore_n 2, 1) := by decide +kernel
theorem dX11_ruleOf_44 : decode cX11_ruleOf 44 = .ok (.iinc 3 (-1), 3) := by decide +kernel
theorem dX11_ruleOf_47 : decode cX11_ruleOf 47 = .ok (.goto (-38), 3) := by decide +kernel
theorem dX11_ruleOf_50 : decode cX11_ruleOf 50 = .ok (.iload_n 2, 1) := by decide +kernel
theorem dX11_ruleOf_51 : decode cX11_ruleOf 51 = .ok (.ireturn, 1) := by decide +kernel
theorem dX11_goes_0 : decode cX11_goes 0 = .ok (.aload_n 0, 1) := by decide +kernel
theorem dX11_goes_1 : decode cX11_goes 1 = .ok (.iload_n 1, 1) := by decide +kernel
theorem dX11_goes_2 : decode cX11_goes 2 = .ok (.invokevirtual 173, 3) := by decide +kernel
theorem dX11_goes_5 : decode cX11_goes 5 = .ok (.istore_n 2, 1) := by decide +kernel
theorem dX11_goes_6 : decode cX11_goes 6 = .ok (.iload_n 2, 1) := by decide +kernel
theorem dX11_goes_7 : decode cX11_goes 7 = .ok (.iconst (-1), 1) := by decide +kernel
theorem dX11_goes_8 : decode cX11_goes 8 = .ok (.if_icmp .ne 7, 3) := by decide +kernel
theorem dX11_goes_11 : decode cX11_goes 11 = .ok (.iconst (-1), 1) := by decide +kernel
theorem dX11_goes_12 : decode cX11_goes 12 = .ok (.goto 13, 3) := by decide +kernel
theorem dX11_goes_15 : decode cX11_goes 15 = .ok (.aload_n 0, 1) := by decide +kernel
theorem dX11_goes_16 : decode cX11_goes 16 = .ok (.getfield 17, 3) := by decide +kernel
theorem dX11_goes_19 : decode cX11_goes 19 = .ok (.iconst 4, 1) := by decide +kernel
theorem dX11_goes_20 : decode cX11_goes 20 = .ok (.iload_n 2, 1) := by decide +kernel
theorem dX11_goes_21 : decode cX11_goes 21 = .ok (.imul, 1) := by decide +kernel
theorem dX11_goes_22 : decode cX11_goes 22 = .ok (.iconst 3, 1) := by decide +kernel
theorem dX11_goes_23 : decode cX11_goes 23 = .ok (.iadd, 1) := by decide +kernel
theorem dX11_goes_24 : decode cX11_goes 24 = .ok (.iaload, 1) := by decide +kernel
theorem dX11_goes_25 : decode cX11_goes 25 = .ok (.ireturn, 1) := by decide +kernel
theorem dX11_heapOf_0 : decode cX11_heapOf 0 = .ok (.aload_n 0, 1) := by decide +kernel
theorem dX11_heapOf_1 : decode cX11_heapOf 1 = .ok (.getfield 38, 3) := by decide +kernel
theorem dX11_heapOf_4 : decode cX11_heapOf 4 = .ok (.iload_n 1, 1) := by decide +kernel
theorem dX11_heapOf_5 : decode cX11_heapOf 5 = .ok (.iaload, 1) := by decide +kernel
theorem dX11_heapOf_6 : decode cX11_heapOf 6 = .ok (.iconst 1, 1) := by decide +kernel
theorem dX11_heapOf_7 : decode cX11_heapOf 7 = .ok (.bipush 6, 2) := by decide +kernel
theorem dX11_heapOf_9 : decode cX11_heapOf 9 = .ok (.invokestatic 73, 3) := by decide +kernel
theorem dX11_heapOf_12 : decode cX11_heapOf 12 = .ok (.ifCond .eq 14, 3) := by decide +kernel
theorem dX11_heapOf_15 : decode cX11_heapOf 15 = .ok (.aload_n 0, 1) := by decide +kernel
theorem dX11_heapOf_16 : decode cX11_heapOf 16 = .ok (.getfield 38, 3) := by decide +kernel
theorem dX11_heapOf_19 : decode cX11_heapOf 19 = .ok (.iload_n 1, 1) := by decide +kernel
theorem dX11_heapOf_20 : decode cX11_heapOf 20 = .ok (.iaload, 1) := by decide +kernel
theorem dX11_heapOf_21 : decode cX11_heapOf 21 = .ok (.iconst 1, 1) := by decide +kernel
theorem dX11_heapOf_22 : decode cX11_heapOf 22 = .ok (.isub, 1) := by decide +kernel
theorem dX11_heapOf_23 : decode cX11_heapOf 23 = .ok (.goto 4, 3) := by decide +kernel
theorem dX11_heapOf_26 : decode cX11_heapOf 26 = .ok (.iconst (-1), 1) := by decide +kernel
theorem dX11_heapOf_27 : decode cX11_heapOf 27 = .ok (.ireturn, 1) := by decide +kernel
theorem dX11_setIn_0 : decode cX11_setIn 0 = .ok (.iconst 0, 1) := by decide +kernel
theorem dX11_setIn_1 : decode cX11_setIn 1 = .ok (.istore_n 2, 1) := by decide +kernel
theorem dX11_setIn_2 : decode cX11_setIn 2 = .ok (.iconst 0, 1) := by decide +kernel
theorem dX11_setIn_3 : decode cX11_setIn 3 = .ok (.istore_n 3, 1) := by decide +kernel
theorem dX11_setIn_4 : decode cX11_setIn 4 = .ok (.iload_n 3, 1) := by decide +kernel
theorem dX11_setIn_5 : decode cX11_setIn 5 = .ok (.aload_n 0, 1) := by decide +kernel
theorem dX11_setIn_6 : decode cX11_setIn 6 = .ok (.getfield 145, 3) := by decide +kernel
theorem dX11_setIn_9 : decode cX11_setIn 9 = .ok (.if_icmp .ge 29, 3) := by decide +kernel
theorem dX11_setIn_12 : decode cX11_setIn 12 = .ok (.iload_n 2, 1) := by decide +kernel
theorem dX11_setIn_13 : decode cX11_setIn 13 = .ok (.aload_n 0, 1) := by decide +kernel
theorem dX11_setIn_14 : decode cX11_setIn 14 = .ok (.getfield 38, 3) := by decide +kernel
theorem dX11_setIn_17 : decode cX11_setIn 17 = .ok (.iload_n 3, 1) := by decide +kernel
theorem dX11_setIn_18 : decode cX11_setIn 18 = .ok (.iaload, 1) := by decide +kernel
theorem dX11_setIn_19 : decode cX11_setIn 19 = .ok (.iload_n 1, 1) := by decide +kernel
theorem dX11_setIn_20 : decode cX11_setIn 20 = .ok (.if_icmp .ne 9, 3) := by decide +kernel
theorem dX11_setIn_23 : decode cX11_setIn 23 = .ok (.iconst 1, 1) := by decide +kernel
theorem dX11_setIn_24 : decode cX11_setIn 24 = .ok (.iload_n 3, 1) := by decide +kernel
theorem dX11_setIn_25 : decode cX11_setIn 25 = .ok (.ishl, 1) := by decide +kernel
theorem dX11_setIn_26 : decode cX11_setIn 26 = .ok (.goto 4, 3) := by decide +kernel
theorem dX11_setIn_29 : decode cX11_setIn 29 = .ok (.iconst 0, 1) := by decide +kernel
theorem dX11_setIn_30 : decode cX11_setIn 30 = .ok (.ior, 1) := by decide +kernel
theorem dX11_setIn_31 : decode cX11_setIn 31 = .ok (.istore_n 2, 1) := by decide +kernel
theorem dX11_setIn_32 : decode cX11_setIn 32 = .ok (.iinc 3 1, 3) := by decide +kernel
theorem dX11_setIn_35 : decode cX11_setIn 35 = .ok (.goto (-31), 3) := by decide +kernel
theorem dX11_setIn_38 : decode cX11_setIn 38 = .ok (.iload_n 2, 1) := by decide +kernel
theorem dX11_setIn_39 : decode cX11_setIn 39 = .ok (.ireturn, 1) := by decide +kernel
theorem dX11_sewnTo_0 : decode cX11_sewnTo 0 = .ok (.iconst (-1), 1) := by decide +kernel
theorem dX11_sewnTo_1 : decode cX11_sewnTo 1 = .ok (.istore_n 2, 1) := by decide +kernel
theorem dX11_sewnTo_2 : decode cX11_sewnTo 2 = .ok (.iconst 0, 1) := by decide +kernel
theorem dX11_sewnTo_3 : decode cX11_sewnTo 3 = .ok (.istore_n 3, 1) := by decide +kernel
theorem dX11_sewnTo_4 : decode cX11_sewnTo 4 = .ok (.iload_n 3, 1) := by decide +kernel
theorem dX11_sewnTo_5 : decode cX11_sewnTo 5 = .ok (.aload_n 0, 1) := by decide +kernel
theorem dX11_sewnTo_6 : decode cX11_sewnTo 6 = .ok (.getfield 145, 3) := by decide +kernel
theorem dX11_sewnTo_9 : decode cX11_sewnTo 9 = .ok (.if_icmp .ge 28, 3) := by decide +kernel
theorem dX11_sewnTo_12 : decode cX11_sewnTo 12 = .ok (.aload_n 0, 1) := by decide +kernel
theorem dX11_sewnTo_13 : decode cX11_sewnTo 13 = .ok (.getfield 38, 3) := by decide +kernel
theorem dX11_sewnTo_16 : decode cX11_sewnTo 16 = .ok (.iload_n 3, 1) := by decide +kernel
theorem dX11_sewnTo_17 : decode cX11_sewnTo 17 = .ok (.iaload, 1) := by decide +kernel
theorem dX11_sewnTo_18 : decode cX11_sewnTo 18 = .ok (.bipush 8, 2) := by decide +kernel
theorem dX11_sewnTo_20 : decode cX11_sewnTo 20 = .ok (.iload_n 1, 1) := by decide +kernel
theorem dX11_sewnTo_21 : decode cX11_sewnTo 21 = .ok (.iadd, 1) := by decide +kernel
theorem dX11_sewnTo_22 : decode cX11_sewnTo 22 = .ok (.if_icmp .ne 7, 3) := by decide +kernel
theorem dX11_sewnTo_25 : decode cX11_sewnTo 25 = .ok (.iload_n 3, 1) := by decide +kernel
theorem dX11_sewnTo_26 : decode cX11_sewnTo 26 = .ok (.goto 4, 3) := by decide +kernel
theorem dX11_sewnTo_29 : decode cX11_sewnTo 29 = .ok (.iload_n 2, 1) := by decide +kernel
theorem dX11_sewnTo_30 : decode cX11_sewnTo 30 = .ok (.istore_n 2, 1) := by decide +kernel
theorem dX11_sewnTo_31 : decode cX11_sewnTo 31 = .ok (.iinc 3 1, 3) := by decide +kernel
theorem dX11_sewnTo_34 : decode cX11_sewnTo 34 = .ok (.goto (-30), 3) := by decide +kernel
theorem dX11_sewnTo_37 : decode cX11_sewnTo 37 = .ok (.iload_n 2, 1) := by decide +kernel
theorem dX11_sewnTo_38 : decode cX11_sewnTo 38 = .ok (.ireturn, 1) := by decide +kernel
theorem dX11_bitsOf_0 : decode cX11_bitsOf 0 = .ok (.iconst 0, 1) := by decide +kernel
theorem dX11_bitsOf_1 : decode cX11_bitsOf 1 = .ok (.istore_n 1, 1) := by decide +kernel
theorem dX11_bitsOf_2 : decode cX11_bitsOf 2 = .ok (.iconst 0, 1) := by decide +kernel
theorem dX11_bitsOf_3 : decode cX11_bitsOf 3 = .ok (.istore_n 2, 1) := by decide +kernel
theorem dX11_bitsOf_4 : decode cX11_bitsOf 4 = .ok (.iload_n 2, 1) := by decide +kernel
theorem dX11_bitsOf_5 : decode cX11_bitsOf 5 = .ok (.bipush 12, 2) := by decide +kernel
theorem dX11_bitsOf_7 : decode cX11_bitsOf 7 = .ok (.if_icmp .ge 17, 3) := by decide +kernel
theorem dX11_bitsOf_10 : decode cX11_bitsOf 10 = .ok (.iload_n 1, 1) := by decide +kernel
theorem dX11_bitsOf_11 : decode cX11_bitsOf 11 = .ok (.iload_n 0, 1) := by decide +kernel
theorem dX11_bitsOf_12 : decode cX11_bitsOf 12 = .ok (.iload_n 2, 1) := by decide +kernel
theorem dX11_bitsOf_13 : decode cX11_bitsOf 13 = .ok (.ishr, 1) := by decide +kernel
theorem dX11_bitsOf_14 : decode cX11_bitsOf 14 = .ok (.iconst 1, 1) := by decide +kernel
theorem dX11_bitsOf_15 : decode cX11_bitsOf 15 = .ok (.iand, 1) := by decide +kernel
theorem dX11_bitsOf_16 : decode cX11_bitsOf 16 = .ok (.iadd, 1) := by decide +kernel
theorem dX11_bitsOf_17 : decode cX11_bitsOf 17 = .ok (.istore_n 1, 1) := by decide +kernel
theorem dX11_bitsOf_18 : decode cX11_bitsOf 18 = .ok (.iinc 2 1, 3) := by decide +kernel
theorem dX11_bitsOf_21 : decode cX11_bitsOf 21 = .ok (.goto (-17), 3) := by decide +kernel
theorem dX11_bitsOf_24 : decode cX11_bitsOf 24 = .ok (.iload_n 1, 1) := by decide +kernel
theorem dX11_bitsOf_25 : decode cX11_bitsOf 25 = .ok (.ireturn, 1) := by decide +kernel
theorem dX11_placeOf_0 : decode cX11_placeOf 0 = .ok (.iconst 0, 1) := by decide +kernel
theorem dX11_placeOf_1 : decode cX11_placeOf 1 = .ok (.istore_n 2, 1) := by decide +kernel
theorem dX11_placeOf_2 : decode cX11_placeOf 2 = .ok (.aload_n 0, 1) := by decide +kernel
theorem dX11_placeOf_3 : decode cX11_placeOf 3 = .ok (.getfield 38, 3) := by decide +kernel
theorem dX11_placeOf_6 : decode cX11_placeOf 6 = .ok (.bipush 24, 2) := by decide +kernel
theorem dX11_placeOf_8 : decode cX11_placeOf 8 = .ok (.iload_n 2, 1) := by decide +kernel
theorem dX11_placeOf_9 : decode cX11_placeOf 9 = .ok (.iadd, 1) := by decide +kernel
theorem dX11_placeOf_10 : decode cX11_placeOf 10 = .ok (.iaload, 1) := by decide +kernel
theorem dX11_placeOf_11 : decode cX11_placeOf 11 = .ok (.iload_n 1, 1) := by decide +kernel
theorem dX11_placeOf_12 : decode cX11_placeOf 12 = .ok (.if_icmp .eq 9, 3) := by decide +kernel
theorem dX11_placeOf_15 : decode cX11_placeOf 15 = .ok (.iinc 2 1, 3) := by decide +kernel
theorem dX11_placeOf_18 : decode cX11_placeOf 18 = .ok (.goto (-16), 3) := by decide +kernel
theorem dX11_placeOf_21 : decode cX11_placeOf 21 = .ok (.iload_n 2, 1) := by decide +kernel
theorem dX11_placeOf_22 : decode cX11_placeOf 22 = .ok (.ireturn, 1) := by decide +kernel
theorem dX11_holdsOf_0 : decode cX11_holdsOf 0 = .ok (.iconst 0, 1) := by decide +kernel
theorem dX11_holdsOf_1 : decode cX11_holdsOf 1 = .ok (.istore_n 2, 1) := by decide +kernel
theorem dX11_holdsOf_2 : decode cX11_holdsOf 2 = .ok (.iconst 0, 1) := by decide +kernel
theorem dX11_holdsOf_3 : decode cX11_holdsOf 3 = .ok (.istore_n 3, 1) := by decide +kernel
theorem dX11_holdsOf_4 : decode cX11_holdsOf 4 = .ok (.iload_n 3, 1) := by decide +kernel
theorem dX11_holdsOf_5 : decode cX11_holdsOf 5 = .ok (.aload_n 0, 1) := by decide +kernel
theorem dX11_holdsOf_6 : decode cX11_holdsOf 6 = .ok (.getfield 145, 3) := by decide +kernel
theorem dX11_holdsOf_9 : decode cX11_holdsOf 9 = .ok (.if_icmp .ge 29, 3) := by decide +kernel
theorem dX11_holdsOf_12 : decode cX11_holdsOf 12 = .ok (.iload_n 2, 1) := by decide +kernel
theorem dX11_holdsOf_13 : decode cX11_holdsOf 13 = .ok (.iload_n 1, 1) := by decide +kernel
theorem dX11_holdsOf_14 : decode cX11_holdsOf 14 = .ok (.iload_n 3, 1) := by decide +kernel
theorem dX11_holdsOf_15 : decode cX11_holdsOf 15 = .ok (.invokestatic 177, 3) := by decide +kernel
theorem dX11_holdsOf_18 : decode cX11_holdsOf 18 = .ok (.ifCond .eq 11, 3) := by decide +kernel
theorem dX11_holdsOf_21 : decode cX11_holdsOf 21 = .ok (.aload_n 0, 1) := by decide +kernel
theorem dX11_holdsOf_22 : decode cX11_holdsOf 22 = .ok (.iload_n 3, 1) := by decide +kernel
theorem dX11_holdsOf_23 : decode cX11_holdsOf 23 = .ok (.invokevirtual 180, 3) := by decide +kernel
theorem dX11_holdsOf_26 : decode cX11_holdsOf 26 = .ok (.goto 4, 3) := by decide +kernel
theorem dX11_holdsOf_29 : decode cX11_holdsOf 29 = .ok (.iconst 0, 1) := by decide +kernel
theorem dX11_holdsOf_30 : decode cX11_holdsOf 30 = .ok (.iadd, 1) := by decide +kernel
theorem dX11_holdsOf_31 : decode cX11_holdsOf 31 = .ok (.istore_n 2, 1) := by decide +kernel
theorem dX11_holdsOf_32 : decode cX11_holdsOf 32 = .ok (.iinc 3 1, 3) := by decide +kernel
theorem dX11_holdsOf_35 : decode cX11_holdsOf 35 = .ok (.goto (-31), 3) := by decide +kernel
theorem dX11_holdsOf_38 : decode cX11_holdsOf 38 = .ok (.iload_n 2, 1) := by decide +kernel
theorem dX11_holdsOf_39 : decode cX11_holdsOf 39 = .ok (.ireturn, 1) := by decide +kernel
theorem dX11_heaviest_0 : decode cX11_heaviest 0 = .ok (.iconst (-1), 1) := by decide +kernel
theorem dX11_heaviest_1 : decode cX11_heaviest 1 = .ok (.istore_n 1, 1) := by decide +kernel
theorem dX11_heaviest_2 : decode cX11_heaviest 2 = .ok (.iconst 0, 1) := by decide +kernel
theorem dX11_heaviest_3 : decode cX11_heaviest 3 = .ok (.istore_n 2, 1) := by decide +kernel
theorem dX11_heaviest_4 : decode cX11_heaviest 4 = .ok (.iload_n 2, 1) := by decide +kernel
theorem dX11_heaviest_5 : decode cX11_heaviest 5 = .ok (.bipush 6, 2) := by decide +kernel
theorem dX11_heaviest_7 : decode cX11_heaviest 7 = .ok (.if_icmp .ge 63, 3) := by decide +kernel
theorem dX11_heaviest_10 : decode cX11_heaviest 10 = .ok (.aload_n 0, 1) := by decide +kernel
theorem dX11_heaviest_11 : decode cX11_heaviest 11 = .ok (.iconst 1, 1) := by decide +kernel
theorem dX11_heaviest_12 : decode cX11_heaviest 12 = .ok (.iload_n 2, 1) := by decide +kernel
theorem dX11_heaviest_13 : decode cX11_heaviest 13 = .ok (.iadd, 1) := by decide +kernel
theorem dX11_heaviest_14 : decode cX11_heaviest 14 = .ok (.invokevirtual 183, 3) := by decide +kernel
theorem dX11_heaviest_17 : decode cX11_heaviest 17 = .ok (.istore_n 3, 1) := by decide +kernel
theorem dX11_heaviest_18 : decode cX11_heaviest 18 = .ok (.iload_n 3, 1) := by decide +kernel
theorem dX11_heaviest_19 : decode cX11_heaviest 19 = .ok (.ifCond .eq 31, 3) := by decide +kernel
theorem dX11_heaviest_22 : decode cX11_heaviest 22 = .ok (.iload_n 1, 1) := by decide +kernel
theorem dX11_heaviest_23 : decode cX11_heaviest 23 = .ok (.iconst (-1), 1) := by decide +kernel
theorem dX11_heaviest_24 : decode cX11_heaviest 24 = .ok (.if_icmp .eq 22, 3) := by decide +kernel
theorem dX11_heaviest_27 : decode cX11_heaviest 27 = .ok (.aload_n 0, 1) := by decide +kernel
theorem dX11_heaviest_28 : decode cX11_heaviest 28 = .ok (.iload_n 3, 1) := by decide +kernel
theorem dX11_heaviest_29 : decode cX11_heaviest 29 = .ok (.invokevirtual 186, 3) := by decide +kernel
theorem dX11_heaviest_32 : decode cX11_heaviest 32 = .ok (.aload_n 0, 1) := by decide +kernel
theorem dX11_heaviest_33 : decode cX11_heaviest 33 = .ok (.aload_n 0, 1) := by decide +kernel
theorem dX11_heaviest_34 : decode cX11_heaviest 34 = .ok (.iconst 1, 1) := by decide +kernel
theorem dX11_heaviest_35 : decode cX11_heaviest 35 = .ok (.iload_n 1, 1) := by decide +kernel
theorem dX11_heaviest_36 : decode cX11_heaviest 36 = .ok (.iadd, 1) := by decide +kernel
theorem dX11_heaviest_37 : decode cX11_heaviest 37 = .ok (.invokevirtual 183, 3) := by decide +kernel
theorem dX11_heaviest_40 : decode cX11_heaviest 40 = .ok (.invokevirtual 186, 3) := by decide +kernel
theorem dX11_heaviest_43 : decode cX11_heaviest 43 = .ok (.if_icmp .le 7, 3) := by decide +kernel
theorem dX11_heaviest_46 : decode cX11_heaviest 46 = .ok (.iconst 1, 1) := by decide +kernel
theorem dX11_heaviest_47 : decode cX11_heaviest 47 = .ok (.goto 4, 3) := by decide +kernel
theorem dX11_heaviest_50 : decode cX11_heaviest 50 = .ok (.iconst 0, 1) := by decide +kernel
theorem dX11_heaviest_51 : decode cX11_heaviest 51 = .ok (.istore 4, 2) := by decide +kernel
theorem dX11_heaviest_53 : decode cX11_heaviest 53 = .ok (.iload 4, 2) := by decide +kernel
theorem dX11_heaviest_55 : decode cX11_heaviest 55 = .ok (.ifCond .eq 7, 3) := by decide +kernel
theorem dX11_heaviest_58 : decode cX11_heaviest 58 = .ok (.iload_n 2, 1) := by decide +kernel
theorem dX11_heaviest_59 : decode cX11_heaviest 59 = .ok (.goto 4, 3) := by decide +kernel
theorem dX11_heaviest_62 : decode cX11_heaviest 62 = .ok (.iload_n 1, 1) := by decide +kernel
theorem dX11_heaviest_63 : decode cX11_heaviest 63 = .ok (.istore_n 1, 1) := by decide +kernel
theorem dX11_heaviest_64 : decode cX11_heaviest 64 = .ok (.iinc 2 1, 3) := by decide +kernel
theorem dX11_heaviest_67 : decode cX11_heaviest 67 = .ok (.goto (-63), 3) := by decide +kernel
theorem dX11_heaviest_70 : decode cX11_heaviest 70 = .ok (.iload_n 1, 1) := by decide +kernel
theorem dX11_heaviest_71 : decode cX11_heaviest 71 = .ok (.ireturn, 1) := by decide +kernel
theorem dX11_those_0 : decode cX11_those 0 = .ok (.iconst 0, 1) := by decide +kernel
theorem dX11_those_1 : decode cX11_those 1 = .ok (.istore_n 2, 1) := by decide +kernel
theorem dX11_those_2 : decode cX11_those 2 = .ok (.iconst 0, 1) := by decide +kernel
theorem dX11_those_3 : decode cX11_those 3 = .ok (.istore_n 3, 1) := by decide +kernel
theorem dX11_those_4 : decode cX11_those 4 = .ok (.iconst 0, 1) := by decide +kernel
theorem dX11_those_5 : decode cX11_those 5 = .ok (.istore 4, 2) := by decide +kernel
theorem dX11_those_7 : decode cX11_those 7 = .ok (.iload 4, 2) := by decide +kernel
theorem dX11_those_9 : decode cX11_those 9 = .ok (.aload_n 0, 1) := by decide +kernel
theorem dX11_those_10 : decode cX11_those 10 = .ok (.getfield 145, 3) := by decide +kernel
theorem dX11_those_13 : decode cX11_those 13 = .ok (.if_icmp .ge 125, 3) := by decide +kernel
theorem dX11_those_16 : decode cX11_those 16 = .ok (.aload_n 0, 1) := by decide +kernel
theorem dX11_those_17 : decode cX11_those 17 = .ok (.iload 4, 2) := by decide +kernel
theorem dX11_those_19 : decode cX11_those 19 = .ok (.invokevirtual 173, 3) := by decide +kernel
theorem dX11_those_22 : decode cX11_those 22 = .ok (.istore 5, 2) := by decide +kernel
theorem dX11_those_24 : decode cX11_those 24 = .ok (.iload_n 3, 1) := by decide +kernel
theorem dX11_those_25 : decode cX11_those 25 = .ok (.iload 5, 2) := by decide +kernel
theorem dX11_those_27 : decode cX11_those 27 = .ok (.iconst (-1), 1) := by decide +kernel
theorem dX11_those_28 : decode cX11_those 28 = .ok (.if_icmp .ne 7, 3) := by decide +kernel
theorem dX11_those_31 : decode cX11_those 31 = .ok (.iconst 0, 1) := by decide +kernel
theorem dX11_those_32 : decode cX11_those 32 = .ok (.goto 7, 3) := by decide +kernel
theorem dX11_those_35 : decode cX11_those 35 = .ok (.iconst 1, 1) := by decide +kernel
theorem dX11_those_36 : decode cX11_those 36 = .ok (.iload 5, 2) := by decide +kernel
theorem dX11_those_38 : decode cX11_those 38 = .ok (.ishl, 1) := by decide +kernel
theorem dX11_those_39 : decode cX11_those 39 = .ok (.ior, 1) := by decide +kernel
theorem dX11_those_40 : decode cX11_those 40 = .ok (.istore_n 3, 1) := by decide +kernel
theorem dX11_those_41 : decode cX11_those 41 = .ok (.iload_n 1, 1) := by decide +kernel
theorem dX11_those_42 : decode cX11_those 42 = .ok (.ifCond .ne 23, 3) := by decide +kernel
theorem dX11_those_45 : decode cX11_those 45 = .ok (.aload_n 0, 1) := by decide +kernel
theorem dX11_those_46 : decode cX11_those 46 = .ok (.getfield 38, 3) := by decide +kernel
theorem dX11_those_49 : decode cX11_those 49 = .ok (.iload 4, 2) := by decide +kernel
theorem dX11_those_51 : decode cX11_those 51 = .ok (.iaload, 1) := by decide +kernel
theorem dX11_those_52 : decode cX11_those 52 = .ok (.bipush 8, 2) := by decide +kernel
theorem dX11_those_54 : decode cX11_those 54 = .ok (.if_icmp .lt 7, 3) := by decide +kernel
theorem dX11_those_57 : decode cX11_those 57 = .ok (.iconst 1, 1) := by decide +kernel
theorem dX11_those_58 : decode cX11_those 58 = .ok (.goto 56, 3) := by decide +kernel
theorem dX11_those_61 : decode cX11_those 61 = .ok (.iconst 0, 1) := by decide +kernel
theorem dX11_those_62 : decode cX11_those 62 = .ok (.goto 52, 3) := by decide +kernel
theorem dX11_those_65 : decode cX11_those 65 = .ok (.iload_n 1, 1) := by decide +kernel
theorem dX11_those_66 : decode cX11_those 66 = .ok (.iconst 1, 1) := by decide +kernel
theorem dX11_those_67 : decode cX11_those 67 = .ok (.if_icmp .ne 17, 3) := by decide +kernel
theorem dX11_those_70 : decode cX11_those 70 = .ok (.iload 5, 2) := by decide +kernel
theorem dX11_those_72 : decode cX11_those 72 = .ok (.iconst (-1), 1) := by decide +kernel
theorem dX11_those_73 : decode cX11_those 73 = .ok (.if_icmp .ne 7, 3) := by decide +kernel
theorem dX11_those_76 : decode cX11_those 76 = .ok (.iconst 1, 1) := by decide +kernel
theorem dX11_those_77 : decode cX11_those 77 = .ok (.goto 37, 3) := by decide +kernel
theorem dX11_those_80 : decode cX11_those 80 = .ok (.iconst 0, 1) := by decide +kernel
theorem dX11_those_81 : decode cX11_those 81 = .ok (.goto 33, 3) := by decide +kernel
theorem dX11_those_84 : decode cX11_those 84 = .ok (.aload_n 0, 1) := by decide +kernel
theorem dX11_those_85 : decode cX11_those 85 = .ok (.iload 4, 2) := by decide +kernel
theorem dX11_those_87 : decode cX11_those 87 = .ok (.invokevirtual 189, 3) := by decide +kernel
theorem dX11_those_90 : decode cX11_those 90 = .ok (.iconst (-1), 1) := by decide +kernel
theorem dX11_those_91 : decode cX11_those 91 = .ok (.if_icmp .eq 22, 3) := by decide +kernel
theorem dX11_those_94 : decode cX11_those 94 = .ok (.aload_n 0, 1) := by decide +kernel
theorem dX11_those_95 : decode cX11_those 95 = .ok (.iload 4, 2) := by decide +kernel
theorem dX11_those_97 : decode cX11_those 97 = .ok (.invokevirtual 189, 3) := by decide +kernel
theorem dX11_those_100 : decode cX11_those 100 = .ok (.aload_n 0, 1) := by decide +kernel
theorem dX11_those_101 : decode cX11_those 101 = .ok (.iload 4, 2) := by decide +kernel
theorem dX11_those_103 : decode cX11_those 103 = .ok (.invokevirtual 192, 3) := by decide +kernel
theorem dX11_those_106 : decode cX11_those 106 = .ok (.if_icmp .eq 7, 3) := by decide +kernel
theorem dX11_those_109 : decode cX11_those 109 = .ok (.iconst 1, 1) := by decide +kernel
theorem dX11_those_110 : decode cX11_those 110 = .ok (.goto 4, 3) := by decide +kernel
theorem dX11_those_113 : decode cX11_those 113 = .ok (.iconst 0, 1) := by decide +kernel
theorem dX11_those_114 : decode cX11_those 114 = .ok (.istore 6, 2) := by decide +kernel
theorem dX11_those_116 : decode cX11_those 116 = .ok (.iload_n 2, 1) := by decide +kernel
theorem dX11_those_117 : decode cX11_those 117 = .ok (.iload 6, 2) := by decide +kernel
theorem dX11_those_119 : decode cX11_those 119 = .ok (.ifCond .eq 10, 3) := by decide +kernel
theorem dX11_those_122 : decode cX11_those 122 = .ok (.iconst 1, 1) := by decide +kernel
theorem dX11_those_123 : decode cX11_those 123 = .ok (.iload 4, 2) := by decide +kernel
theorem dX11_those_125 : decode cX11_those 125 = .ok (.ishl, 1) := by decide +kernel
theorem dX11_those_126 : decode cX11_those 126 = .ok (.goto 4, 3) := by decide +kernel
theorem dX11_those_129 : decode cX11_those 129 = .ok (.iconst 0, 1) := by decide +kernel
theorem dX11_those_130 : decode cX11_those 130 = .ok (.ior, 1) := by decide +kernel
theorem dX11_those_131 : decode cX11_those 131 = .ok (.istore_n 2, 1) := by decide +kernel
theorem dX11_those_132 : decode cX11_those 132 = .ok (.iinc 4 1, 3) := by decide +kernel
theorem dX11_those_135 : decode cX11_those 135 = .ok (.goto (-128), 3) := by decide +kernel
theorem dX11_those_138 : decode cX11_those 138 = .ok (.iload_n 1, 1) := by decide +kernel
theorem dX11_those_139 : decode cX11_those 139 = .ok (.iconst 3, 1) := by decide +kernel
theorem dX11_those_140 : decode cX11_those 140 = .ok (.if_icmp .ne 18, 3) := by decide +kernel
theorem dX11_those_143 : decode cX11_those 143 = .ok (.iconst 1, 1) := by decide +kernel
theorem dX11_those_144 : decode cX11_those 144 = .ok (.aload_n 0, 1) := by decide +kernel
theorem dX11_those_145 : decode cX11_those 145 = .ok (.getfield 148, 3) := by decide +kernel
theorem dX11_those_148 : decode cX11_those 148 = .ok (.ishl, 1) := by decide +kernel
theorem dX11_those_149 : decode cX11_those 149 = .ok (.iconst 1, 1) := by decide +kernel
theorem dX11_those_150 : decode cX11_those 150 = .ok (.isub, 1) := by decide +kernel
theorem dX11_those_151 : decode cX11_those 151 = .ok (.iload_n 3, 1) := by decide +kernel
theorem dX11_those_152 : decode cX11_those 152 = .ok (.iconst (-1), 1) := by decide +kernel
theorem dX11_those_153 : decode cX11_those 153 = .ok (.ixor, 1) := by decide +kernel
theorem dX11_those_154 : decode cX11_those 154 = .ok (.iand, 1) := by decide +kernel
theorem dX11_those_155 : decode cX11_those 155 = .ok (.goto 4, 3) := by decide +kernel
theorem dX11_those_158 : decode cX11_those 158 = .ok (.iload_n 2, 1) := by decide +kernel
theorem dX11_those_159 : decode cX11_those 159 = .ok (.ireturn, 1) := by decide +kernel
theorem dX11_told_0 : decode cX11_told 0 = .ok (.iload_n 1, 1) := by decide +kernel
theorem dX11_told_1 : decode cX11_told 1 = .ok (.tableswitch 169 0 15 #[79, 84, 89, 94, 99, 104, 109, 115, 122, 128, 136, 142, 148, 154, 159, 164], 79) := by decide +kernel
theorem dX11_told_80 : decode cX11_told 80 = .ok (.aload_n 0, 1) := by decide +kernel
theorem dX11_told_81 : decode cX11_told 81 = .ok (.getfield 142, 3) := by decide +kernel
theorem dX11_told_84 : decode cX11_told 84 = .ok (.ireturn, 1) := by decide +kernel
theorem dX11_told_85 : decode cX11_told 85 = .ok (.aload_n 0, 1) := by decide +kernel
theorem dX11_told_86 : decode cX11_told 86 = .ok (.getfield 145, 3) := by decide +kernel
theorem dX11_told_89 : decode cX11_told 89 = .ok (.ireturn, 1) := by decide +kernel
theorem dX11_told_90 : decode cX11_told 90 = .ok (.aload_n 0, 1) := by decide +kernel
theorem dX11_told_91 : decode cX11_told 91 = .ok (.getfield 148, 3) := by decide +kernel
theorem dX11_told_94 : decode cX11_told 94 = .ok (.ireturn, 1) := by decide +kernel
theorem dX11_told_95 : decode cX11_told 95 = .ok (.aload_n 0, 1) := by decide +kernel
theorem dX11_told_96 : decode cX11_told 96 = .ok (.getfield 151, 3) := by decide +kernel
theorem dX11_told_99 : decode cX11_told 99 = .ok (.ireturn, 1) := by decide +kernel
theorem dX11_told_100 : decode cX11_told 100 = .ok (.aload_n 0, 1) := by decide +kernel
theorem dX11_told_101 : decode cX11_told 101 = .ok (.getfield 154, 3) := by decide +kernel
theorem dX11_told_104 : decode cX11_told 104 = .ok (.ireturn, 1) := by decide +kernel
theorem dX11_told_105 : decode cX11_told 105 = .ok (.aload_n 0, 1) := by decide +kernel
theorem dX11_told_106 : decode cX11_told 106 = .ok (.getfield 78, 3) := by decide +kernel
theorem dX11_told_109 : decode cX11_told 109 = .ok (.ireturn, 1) := by decide +kernel
theorem dX11_told_110 : decode cX11_told 110 = .ok (.aload_n 0, 1) := by decide +kernel
theorem dX11_told_111 : decode cX11_told 111 = .ok (.iconst 0, 1) := by decide +kernel
theorem dX11_told_112 : decode cX11_told 112 = .ok (.invokevirtual 183, 3) := by decide +kernel
theorem dX11_told_115 : decode cX11_told 115 = .ok (.ireturn, 1) := by decide +kernel
theorem dX11_told_116 : decode cX11_told 116 = .ok (.aload_n 0, 1) := by decide +kernel
theorem dX11_told_117 : decode cX11_told 117 = .ok (.bipush 7, 2) := by decide +kernel
theorem dX11_told_119 : decode cX11_told 119 = .ok (.invokevirtual 183, 3) := by decide +kernel
theorem dX11_told_122 : decode cX11_told 122 = .ok (.ireturn, 1) := by decide +kernel
theorem dX11_told_123 : decode cX11_told 123 = .ok (.aload_n 0, 1) := by decide +kernel
theorem dX11_told_124 : decode cX11_told 124 = .ok (.iconst 0, 1) := by decide +kernel
theorem dX11_told_125 : decode cX11_told 125 = .ok (.invokevirtual 195, 3) := by decide +kernel
theorem dX11_told_128 : decode cX11_told 128 = .ok (.ireturn, 1) := by decide +kernel
theorem dX11_told_129 : decode cX11_told 129 = .ok (.aload_n 0, 1) := by decide +kernel
theorem dX11_told_130 : decode cX11_told 130 = .ok (.getfield 38, 3) := by decide +kernel
theorem dX11_told_133 : decode cX11_told 133 = .ok (.bipush 30, 2) := by decide +kernel
theorem dX11_told_135 : decode cX11_told 135 = .ok (.iaload, 1) := by decide +kernel
theorem dX11_told_136 : decode cX11_told 136 = .ok (.ireturn, 1) := by decide +kernel
theorem dX11_told_137 : decode cX11_told 137 = .ok (.aload_n 0, 1) := by decide +kernel
theorem dX11_told_138 : decode cX11_told 138 = .ok (.iconst 1, 1) := by decide +kernel
theorem dX11_told_139 : decode cX11_told 139 = .ok (.invokevirtual 195, 3) := by decide +kernel
theorem dX11_told_142 : decode cX11_told 142 = .ok (.ireturn, 1) := by decide +kernel
theorem dX11_told_143 : decode cX11_told 143 = .ok (.aload_n 0, 1) := by decide +kernel
theorem dX11_told_144 : decode cX11_told 144 = .ok (.iconst 2, 1) := by decide +kernel
theorem dX11_told_145 : decode cX11_told 145 = .ok (.invokevirtual 195, 3) := by decide +kernel
theorem dX11_told_148 : decode cX11_told 148 = .ok (.ireturn, 1) := by decide +kernel
theorem dX11_told_149 : decode cX11_told 149 = .ok (.aload_n 0, 1) := by decide +kernel
theorem dX11_told_150 : decode cX11_told 150 = .ok (.iconst 3, 1) := by decide +kernel
theorem dX11_told_151 : decode cX11_told 151 = .ok (.invokevirtual 195, 3) := by decide +kernel
theorem dX11_told_154 : decode cX11_told 154 = .ok (.ireturn, 1) := by decide +kernel
theorem dX11_told_155 : decode cX11_told 155 = .ok (.aload_n 0, 1) := by decide +kernel
theorem dX11_told_156 : decode cX11_told 156 = .ok (.invokevirtual 198, 3) := by decide +kernel
theorem dX11_told_159 : decode cX11_told 159 = .ok (.ireturn, 1) := by decide +kernel
theorem dX11_told_160 : decode cX11_told 160 = .ok (.aload_n 0, 1) := by decide +kernel
theorem dX11_told_161 : decode cX11_told 161 = .ok (.getfield 160, 3) := by decide +kernel
theorem dX11_told_164 : decode cX11_told 164 = .ok (.ireturn, 1) := by decide +kernel
theorem dX11_told_165 : decode cX11_told 165 = .ok (.aload_n 0, 1) := by decide +kernel
theorem dX11_told_166 : decode cX11_told 166 = .ok (.getfield 157, 3) := by decide +kernel
theorem dX11_told_169 : decode cX11_told 169 = .ok (.ireturn, 1) := by decide +kernel
theorem dX11_told_170 : decode cX11_told 170 = .ok (.ldc 77, 2) := by decide +kernel
theorem dX11_told_172 : decode cX11_told 172 = .ok (.ireturn, 1) := by decide +kernel
theorem dX11_button_0 : decode cX11_button 0 = .ok (.aload_n 0, 1) := by decide +kernel
theorem dX11_button_1 : decode cX11_button 1 = .ok (.iload_n 1, 1) := by decide +kernel
theorem dX11_button_2 : decode cX11_button 2 = .ok (.invokevirtual 201, 3) := by decide +kernel
theorem dX11_button_5 : decode cX11_button 5 = .ok (.ifCond .ne 6, 3) := by decide +kernel
theorem dX11_button_8 : decode cX11_button 8 = .ok (.ldc 205, 2) := by decide +kernel
theorem dX11_button_10 : decode cX11_button 10 = .ok (.ireturn, 1) := by decide +kernel
theorem dX11_button_11 : decode cX11_button 11 = .ok (.iload_n 2, 1) := by decide +kernel
theorem dX11_button_12 : decode cX11_button 12 = .ok (.tableswitch 98 0 7 #[48, 48, 48, 48, 55, 61, 67, 92], 48) := by decide +kernel
theorem dX11_button_60 : decode cX11_button 60 = .ok (.aload_n 0, 1) := by decide +kernel
theorem dX11_button_61 : decode cX11_button 61 = .ok (.iload_n 1, 1) := by decide +kernel
theorem dX11_button_62 : decode cX11_button 62 = .ok (.iload_n 2, 1) := by decide +kernel
theorem dX11_button_63 : decode cX11_button 63 = .ok (.invokevirtual 163, 3) := by decide +kernel
theorem dX11_button_66 : decode cX11_button 66 = .ok (.ireturn, 1) := by decide +kernel
theorem dX11_button_67 : decode cX11_button 67 = .ok (.aload_n 0, 1) := by decide +kernel
theorem dX11_button_68 : decode cX11_button 68 = .ok (.iload_n 1, 1) := by decide +kernel
theorem dX11_button_69 : decode cX11_button 69 = .ok (.invokevirtual 180, 3) := by decide +kernel
theorem dX11_button_72 : decode cX11_button 72 = .ok (.ireturn, 1) := by decide +kernel
theorem dX11_button_73 : decode cX11_button 73 = .ok (.aload_n 0, 1) := by decide +kernel
theorem dX11_button_74 : decode cX11_button 74 = .ok (.iload_n 1, 1) := by decide +kernel
theorem dX11_button_75 : decode cX11_button 75 = .ok (.invokevirtual 189, 3) := by decide +kernel
theorem dX11_button_78 : decode cX11_button 78 = .ok (.ireturn, 1) := by decide +kernel
theorem dX11_button_79 : decode cX11_button 79 = .ok (.aload_n 0, 1) := by decide +kernel
theorem dX11_button_80 : decode cX11_button 80 = .ok (.getfield 38, 3) := by decide +kernel
theorem dX11_button_83 : decode cX11_button 83 = .ok (.iload_n 1, 1) := by decide +kernel
theorem dX11_button_84 : decode cX11_button 84 = .ok (.iaload, 1) := by decide +kernel
theorem dX11_button_85 : decode cX11_button 85 = .ok (.bipush 8, 2) := by decide +kernel
theorem dX11_button_87 : decode cX11_button 87 = .ok (.if_icmp .lt 15, 3) := by decide +kernel
theorem dX11_button_90 : decode cX11_button 90 = .ok (.aload_n 0, 1) := by decide +kernel
theorem dX11_button_91 : decode cX11_button 91 = .ok (.getfield 38, 3) := by decide +kernel
theorem dX11_button_94 : decode cX11_button 94 = .ok (.iload_n 1, 1) := by decide +kernel
theorem dX11_button_95 : decode cX11_button 95 = .ok (.iaload, 1) := by decide +kernel
theorem dX11_button_96 : decode cX11_button 96 = .ok (.bipush 8, 2) := by decide +kernel
theorem dX11_button_98 : decode cX11_button 98 = .ok (.isub, 1) := by decide +kernel
theorem dX11_button_99 : decode cX11_button 99 = .ok (.goto 4, 3) := by decide +kernel
theorem dX11_button_102 : decode cX11_button 102 = .ok (.iconst (-1), 1) := by decide +kernel
theorem dX11_button_103 : decode cX11_button 103 = .ok (.ireturn, 1) := by decide +kernel
theorem dX11_button_104 : decode cX11_button 104 = .ok (.aload_n 0, 1) := by decide +kernel
theorem dX11_button_105 : decode cX11_button 105 = .ok (.iload_n 1, 1) := by decide +kernel
theorem dX11_button_106 : decode cX11_button 106 = .ok (.invokevirtual 192, 3) := by decide +kernel
theorem dX11_button_109 : decode cX11_button 109 = .ok (.ireturn, 1) := by decide +kernel
theorem dX11_button_110 : decode cX11_button 110 = .ok (.ldc 77, 2) := by decide +kernel
theorem dX11_button_112 : decode cX11_button 112 = .ok (.ireturn, 1) := by decide +kernel
theorem dX11_rule_0 : decode cX11_rule 0 = .ok (.aload_n 0, 1) := by decide +kernel
theorem dX11_rule_1 : decode cX11_rule 1 = .ok (.iload_n 1, 1) := by decide +kernel
theorem dX11_rule_2 : decode cX11_rule 2 = .ok (.invokevirtual 206, 3) := by decide +kernel
theorem dX11_rule_5 : decode cX11_rule 5 = .ok (.ifCond .ne 6, 3) := by decide +kernel
theorem dX11_rule_8 : decode cX11_rule 8 = .ok (.ldc 205, 2) := by decide +kernel
theorem dX11_rule_10 : decode cX11_rule 10 = .ok (.ireturn, 1) := by decide +kernel
theorem dX11_rule_11 : decode cX11_rule 11 = .ok (.iload_n 2, 1) := by decide +kernel
theorem dX11_rule_12 : decode cX11_rule 12 = .ok (.iconst 0, 1) := by decide +kernel
theorem dX11_rule_13 : decode cX11_rule 13 = .ok (.iconst 4, 1) := by decide +kernel
theorem dX11_rule_14 : decode cX11_rule 14 = .ok (.invokestatic 73, 3) := by decide +kernel
theorem dX11_rule_17 : decode cX11_rule 17 = .ok (.ifCond .ne 8, 3) := by decide +kernel
theorem dX11_rule_20 : decode cX11_rule 20 = .ok (.ldc 77, 2) := by decide +kernel
theorem dX11_rule_22 : decode cX11_rule 22 = .ok (.goto 26, 3) := by decide +kernel
theorem dX11_rule_25 : decode cX11_rule 25 = .ok (.iload_n 2, 1) := by decide +kernel
theorem dX11_rule_26 : decode cX11_rule 26 = .ok (.iconst 4, 1) := by decide +kernel
theorem dX11_rule_27 : decode cX11_rule 27 = .ok (.if_icmp .ne 11, 3) := by decide +kernel
theorem dX11_rule_30 : decode cX11_rule 30 = .ok (.aload_n 0, 1) := by decide +kernel
theorem dX11_rule_31 : decode cX11_rule 31 = .ok (.iload_n 1, 1) := by decide +kernel
theorem dX11_rule_32 : decode cX11_rule 32 = .ok (.invokevirtual 209, 3) := by decide +kernel
theorem dX11_rule_35 : decode cX11_rule 35 = .ok (.goto 13, 3) := by decide +kernel
theorem dX11_rule_38 : decode cX11_rule 38 = .ok (.aload_n 0, 1) := by decide +kernel
theorem dX11_rule_39 : decode cX11_rule 39 = .ok (.getfield 17, 3) := by decide +kernel
theorem dX11_rule_42 : decode cX11_rule 42 = .ok (.iconst 4, 1) := by decide +kernel
theorem dX11_rule_43 : decode cX11_rule 43 = .ok (.iload_n 1, 1) := by decide +kernel
theorem dX11_rule_44 : decode cX11_rule 44 = .ok (.imul, 1) := by decide +kernel
theorem dX11_rule_45 : decode cX11_rule 45 = .ok (.iload_n 2, 1) := by decide +kernel
theorem dX11_rule_46 : decode cX11_rule 46 = .ok (.iadd, 1) := by decide +kernel
theorem dX11_rule_47 : decode cX11_rule 47 = .ok (.iaload, 1) := by decide +kernel
theorem dX11_rule_48 : decode cX11_rule 48 = .ok (.ireturn, 1) := by decide +kernel
theorem dX11_cause_0 : decode cX11_cause 0 = .ok (.aload_n 0, 1) := by decide +kernel
theorem dX11_cause_1 : decode cX11_cause 1 = .ok (.iload_n 1, 1) := by decide +kernel
theorem dX11_cause_2 : decode cX11_cause 2 = .ok (.invokevirtual 212, 3) := by decide +kernel
theorem dX11_cause_5 : decode cX11_cause 5 = .ok (.ifCond .ne 6, 3) := by decide +kernel
theorem dX11_cause_8 : decode cX11_cause 8 = .ok (.ldc 205, 2) := by decide +kernel
theorem dX11_cause_10 : decode cX11_cause 10 = .ok (.ireturn, 1) := by decide +kernel
theorem dX11_cause_11 : decode cX11_cause 11 = .ok (.iload_n 2, 1) := by decide +kernel
theorem dX11_cause_12 : decode cX11_cause 12 = .ok (.iconst 0, 1) := by decide +kernel
theorem dX11_cause_13 : decode cX11_cause 13 = .ok (.iconst 3, 1) := by decide +kernel
theorem dX11_cause_14 : decode cX11_cause 14 = .ok (.invokestatic 73, 3) := by decide +kernel
theorem dX11_cause_17 : decode cX11_cause 17 = .ok (.ifCond .eq 16, 3) := by decide +kernel
theorem dX11_cause_20 : decode cX11_cause 20 = .ok (.aload_n 0, 1) := by decide +kernel
theorem dX11_cause_21 : decode cX11_cause 21 = .ok (.getfield 20, 3) := by decide +kernel
theorem dX11_cause_24 : decode cX11_cause 24 = .ok (.iconst 4, 1) := by decide +kernel
theorem dX11_cause_25 : decode cX11_cause 25 = .ok (.iload_n 1, 1) := by decide +kernel
theorem dX11_cause_26 : decode cX11_cause 26 = .ok (.imul, 1) := by decide +kernel
theorem dX11_cause_27 : decode cX11_cause 27 = .ok (.iload_n 2, 1) := by decide +kernel
theorem dX11_cause_28 : decode cX11_cause 28 = .ok (.iadd, 1) := by decide +kernel
theorem dX11_cause_29 : decode cX11_cause 29 = .ok (.iaload, 1) := by decide +kernel
theorem dX11_cause_30 : decode cX11_cause 30 = .ok (.goto 5, 3) := by decide +kernel
theorem dX11_cause_33 : decode cX11_cause 33 = .ok (.ldc 77, 2) := by decide +kernel
theorem dX11_cause_35 : decode cX11_cause 35 = .ok (.ireturn, 1) := by decide +kernel
theorem dX11_need_0 : decode cX11_need 0 = .ok (.aload_n 0, 1) := by decide +kernel
theorem dX11_need_1 : decode cX11_need 1 = .ok (.iload_n 1, 1) := by decide +kernel
theorem dX11_need_2 : decode cX11_need 2 = .ok (.invokevirtual 215, 3) := by decide +kernel
theorem dX11_need_5 : decode cX11_need 5 = .ok (.ifCond .ne 6, 3) := by decide +kernel
theorem dX11_need_8 : decode cX11_need 8 = .ok (.ldc 205, 2) := by decide +kernel
theorem dX11_need_10 : decode cX11_need 10 = .ok (.ireturn, 1) := by decide +kernel
theorem dX11_need_11 : decode cX11_need 11 = .ok (.iload_n 2, 1) := by decide +kernel
theorem dX11_need_12 : decode cX11_need 12 = .ok (.iconst 0, 1) := by decide +kernel
theorem dX11_need_13 : decode cX11_need 13 = .ok (.iconst 1, 1) := by decide +kernel
theorem dX11_need_14 : decode cX11_need 14 = .ok (.invokestatic 73, 3) := by decide +kernel
theorem dX11_need_17 : decode cX11_need 17 = .ok (.ifCond .ne 8, 3) := by decide +kernel
theorem dX11_need_20 : decode cX11_need 20 = .ok (.ldc 77, 2) := by decide +kernel
theorem dX11_need_22 : decode cX11_need 22 = .ok (.goto 21, 3) := by decide +kernel
theorem dX11_need_25 : decode cX11_need 25 = .ok (.iload_n 2, 1) := by decide +kernel
theorem dX11_need_26 : decode cX11_need 26 = .ok (.ifCond .ne 12, 3) := by decide +kernel
theorem dX11_need_29 : decode cX11_need 29 = .ok (.aload_n 0, 1) := by decide +kernel
theorem dX11_need_30 : decode cX11_need 30 = .ok (.getfield 23, 3) := by decide +kernel
theorem dX11_need_33 : decode cX11_need 33 = .ok (.iload_n 1, 1) := by decide +kernel
theorem dX11_need_34 : decode cX11_need 34 = .ok (.iaload, 1) := by decide +kernel
theorem dX11_need_35 : decode cX11_need 35 = .ok (.goto 8, 3) := by decide +kernel
theorem dX11_need_38 : decode cX11_need 38 = .ok (.aload_n 0, 1) := by decide +kernel
theorem dX11_need_39 : decode cX11_need 39 = .ok (.iload_n 1, 1) := by decide +kernel
theorem dX11_need_40 : decode cX11_need 40 = .ok (.invokevirtual 218, 3) := by decide +kernel
theorem dX11_need_43 : decode cX11_need 43 = .ok (.ireturn, 1) := by decide +kernel
theorem dX11_heap_0 : decode cX11_heap 0 = .ok (.iload_n 1, 1) := by decide +kernel
theorem dX11_heap_1 : decode cX11_heap 1 = .ok (.invokestatic 221, 3) := by decide +kernel
theorem dX11_heap_4 : decode cX11_heap 4 = .ok (.ifCond .eq 13, 3) := by decide +kernel
theorem dX11_heap_7 : decode cX11_heap 7 = .ok (.aload_n 0, 1) := by decide +kernel
theorem dX11_heap_8 : decode cX11_heap 8 = .ok (.iconst 1, 1) := by decide +kernel
theorem dX11_heap_9 : decode cX11_heap 9 = .ok (.iload_n 1, 1) := by decide +kernel
theorem dX11_heap_10 : decode cX11_heap 10 = .ok (.iadd, 1) := by decide +kernel
theorem dX11_heap_11 : decode cX11_heap 11 = .ok (.invokevirtual 183, 3) := by decide +kernel
theorem dX11_heap_14 : decode cX11_heap 14 = .ok (.goto 5, 3) := by decide +kernel
theorem dX11_heap_17 : decode cX11_heap 17 = .ok (.ldc 77, 2) := by decide +kernel
theorem dX11_heap_19 : decode cX11_heap 19 = .ok (.ireturn, 1) := by decide +kernel
theorem dX11_know_0 : decode cX11_know 0 = .ok (.aload_n 0, 1) := by decide +kernel
theorem dX11_know_1 : decode cX11_know 1 = .ok (.getfield 157, 3) := by decide +kernel
theorem dX11_know_4 : decode cX11_know 4 = .ok (.bipush 16, 2) := by decide +kernel
theorem dX11_know_6 : decode cX11_know 6 = .ok (.if_icmp .ne 43, 3) := by decide +kernel
theorem dX11_know_9 : decode cX11_know 9 = .ok (.iconst 0, 1) := by decide +kernel
theorem dX11_know_10 : decode cX11_know 10 = .ok (.istore_n 1, 1) := by decide +kernel
theorem dX11_know_11 : decode cX11_know 11 = .ok (.iload_n 1, 1) := by decide +kernel
theorem dX11_know_12 : decode cX11_know 12 = .ok (.sipush 465, 3) := by decide +kernel
theorem dX11_know_15 : decode cX11_know 15 = .ok (.if_icmp .ge 24, 3) := by decide +kernel
theorem dX11_know_18 : decode cX11_know 18 = .ok (.aload_n 0, 1) := by decide +kernel
theorem dX11_know_19 : decode cX11_know 19 = .ok (.getfield 41, 3) := by decide +kernel
theorem dX11_know_22 : decode cX11_know 22 = .ok (.iload_n 1, 1) := by decide +kernel
theorem dX11_know_23 : decode cX11_know 23 = .ok (.aload_n 0, 1) := by decide +kernel
theorem dX11_know_24 : decode cX11_know 24 = .ok (.getfield 41, 3) := by decide +kernel
theorem dX11_know_27 : decode cX11_know 27 = .ok (.bipush 31, 2) := by decide +kernel
theorem dX11_know_29 : decode cX11_know 29 = .ok (.iload_n 1, 1) := by decide +kernel
theorem dX11_know_30 : decode cX11_know 30 = .ok (.iadd, 1) := by decide +kernel
theorem dX11_know_31 : decode cX11_know 31 = .ok (.iaload, 1) := by decide +kernel
theorem dX11_know_32 : decode cX11_know 32 = .ok (.iastore, 1) := by decide +kernel
theorem dX11_know_33 : decode cX11_know 33 = .ok (.iinc 1 1, 3) := by decide +kernel
theorem dX11_know_36 : decode cX11_know 36 = .ok (.goto (-25), 3) := by decide +kernel
theorem dX11_know_39 : decode cX11_know 39 = .ok (.aload_n 0, 1) := by decide +kernel
theorem dX11_know_40 : decode cX11_know 40 = .ok (.dup, 1) := by decide +kernel
theorem dX11_know_41 : decode cX11_know 41 = .ok (.getfield 157, 3) := by decide +kernel
theorem dX11_know_44 : decode cX11_know 44 = .ok (.iconst 1, 1) := by decide +kernel
theorem dX11_know_45 : decode cX11_know 45 = .ok (.isub, 1) := by decide +kernel
theorem dX11_know_46 : decode cX11_know 46 = .ok (.putfield 157, 3) := by decide +kernel
theorem dX11_know_49 : decode cX11_know 49 = .ok (.iconst 0, 1) := by decide +kernel
theorem dX11_know_50 : decode cX11_know 50 = .ok (.istore_n 1, 1) := by decide +kernel
theorem dX11_know_51 : decode cX11_know 51 = .ok (.iload_n 1, 1) := by decide +kernel
theorem dX11_know_52 : decode cX11_know 52 = .ok (.bipush 31, 2) := by decide +kernel
theorem dX11_know_54 : decode cX11_know 54 = .ok (.if_icmp .ge 29, 3) := by decide +kernel
theorem dX11_know_57 : decode cX11_know 57 = .ok (.aload_n 0, 1) := by decide +kernel
theorem dX11_know_58 : decode cX11_know 58 = .ok (.getfield 41, 3) := by decide +kernel
theorem dX11_know_61 : decode cX11_know 61 = .ok (.bipush 31, 2) := by decide +kernel
theorem dX11_know_63 : decode cX11_know 63 = .ok (.aload_n 0, 1) := by decide +kernel
theorem dX11_know_64 : decode cX11_know 64 = .ok (.getfield 157, 3) := by decide +kernel
theorem dX11_know_67 : decode cX11_know 67 = .ok (.imul, 1) := by decide +kernel
theorem dX11_know_68 : decode cX11_know 68 = .ok (.iload_n 1, 1) := by decide +kernel
theorem dX11_know_69 : decode cX11_know 69 = .ok (.iadd, 1) := by decide +kernel
theorem dX11_know_70 : decode cX11_know 70 = .ok (.aload_n 0, 1) := by decide +kernel
theorem dX11_know_71 : decode cX11_know 71 = .ok (.getfield 38, 3) := by decide +kernel
theorem dX11_know_74 : decode cX11_know 74 = .ok (.iload_n 1, 1) := by decide +kernel
theorem dX11_know_75 : decode cX11_know 75 = .ok (.iaload, 1) := by decide +kernel
theorem dX11_know_76 : decode cX11_know 76 = .ok (.iastore, 1) := by decide +kernel
theorem dX11_know_77 : decode cX11_know 77 = .ok (.iinc 1 1, 3) := by decide +kernel
theorem dX11_know_80 : decode cX11_know 80 = .ok (.goto (-29), 3) := by decide +kernel
theorem dX11_know_83 : decode cX11_know 83 = .ok (.aload_n 0, 1) := by decide +kernel
theorem dX11_know_84 : decode cX11_know 84 = .ok (.dup, 1) := by decide +kernel
theorem dX11_know_85 : decode cX11_know 85 = .ok (.getfield 157, 3) := by decide +kernel
theorem dX11_know_88 : decode cX11_know 88 = .ok (.iconst 1, 1) := by decide +kernel
theorem dX11_know_89 : decode cX11_know 89 = .ok (.iadd, 1) := by decide +kernel
theorem dX11_know_90 : decode cX11_know 90 = .ok (.putfield 157, 3) := by decide +kernel
theorem dX11_know_93 : decode cX11_know 93 = .ok (.return_, 1) := by decide +kernel
theorem dX11_put_0 : decode cX11_put 0 = .ok (.aload_n 0, 1) := by decide +kernel
theorem dX11_put_1 : decode cX11_put 1 = .ok (.iload_n 1, 1) := by decide +kernel
theorem dX11_put_2 : decode cX11_put 2 = .ok (.invokevirtual 201, 3) := by decide +kernel
theorem dX11_put_5 : decode cX11_put 5 = .ok (.ifCond .ne 6, 3) := by decide +kernel
theorem dX11_put_8 : decode cX11_put 8 = .ok (.ldc 205, 2) := by decide +kernel
theorem dX11_put_10 : decode cX11_put 10 = .ok (.ireturn, 1) := by decide +kernel
theorem dX11_put_11 : decode cX11_put 11 = .ok (.iload_n 2, 1) := by decide +kernel
theorem dX11_put_12 : decode cX11_put 12 = .ok (.invokestatic 221, 3) := by decide +kernel
theorem dX11_put_15 : decode cX11_put 15 = .ok (.ifCond .ne 6, 3) := by decide +kernel
theorem dX11_put_18 : decode cX11_put 18 = .ok (.ldc 77, 2) := by decide +kernel
theorem dX11_put_20 : decode cX11_put 20 = .ok (.ireturn, 1) := by decide +kernel
theorem dX11_put_21 : decode cX11_put 21 = .ok (.aload_n 0, 1) := by decide +kernel
theorem dX11_put_22 : decode cX11_put 22 = .ok (.getfield 38, 3) := by decide +kernel
theorem dX11_put_25 : decode cX11_put 25 = .ok (.iload_n 1, 1) := by decide +kernel
theorem dX11_put_26 : decode cX11_put 26 = .ok (.iaload, 1) := by decide +kernel
theorem dX11_put_27 : decode cX11_put 27 = .ok (.bipush 8, 2) := by decide +kernel
theorem dX11_put_29 : decode cX11_put 29 = .ok (.if_icmp .ge 15, 3) := by decide +kernel
theorem dX11_put_32 : decode cX11_put 32 = .ok (.aload_n 0, 1) := by decide +kernel
theorem dX11_put_33 : decode cX11_put 33 = .ok (.getfield 38, 3) := by decide +kernel
theorem dX11_put_36 : decode cX11_put 36 = .ok (.iload_n 1, 1) := by decide +kernel
theorem dX11_put_37 : decode cX11_put 37 = .ok (.iaload, 1) := by decide +kernel
theorem dX11_put_38 : decode cX11_put 38 = .ok (.iconst 1, 1) := by decide +kernel
theorem dX11_put_39 : decode cX11_put 39 = .ok (.iload_n 2, 1) := by decide +kernel
theorem dX11_put_40 : decode cX11_put 40 = .ok (.iadd, 1) := by decide +kernel
theorem dX11_put_41 : decode cX11_put 41 = .ok (.if_icmp .ne 6, 3) := by decide +kernel
theorem dX11_put_44 : decode cX11_put 44 = .ok (.ldc 224, 2) := by decide +kernel
theorem dX11_put_46 : decode cX11_put 46 = .ok (.ireturn, 1) := by decide +kernel
theorem dX11_put_47 : decode cX11_put 47 = .ok (.aload_n 0, 1) := by decide +kernel
theorem dX11_put_48 : decode cX11_put 48 = .ok (.invokevirtual 225, 3) := by decide +kernel
theorem dX11_put_51 : decode cX11_put 51 = .ok (.aload_n 0, 1) := by decide +kernel
theorem dX11_put_52 : decode cX11_put 52 = .ok (.getfield 38, 3) := by decide +kernel
theorem dX11_put_55 : decode cX11_put 55 = .ok (.iload_n 1, 1) := by decide +kernel
theorem dX11_put_56 : decode cX11_put 56 = .ok (.iconst 1, 1) := by decide +kernel
theorem dX11_put_57 : decode cX11_put 57 = .ok (.iload_n 2, 1) := by decide +kernel
theorem dX11_put_58 : decode cX11_put 58 = .ok (.iadd, 1) := by decide +kernel
theorem dX11_put_59 : decode cX11_put 59 = .ok (.iastore, 1) := by decide +kernel
theorem dX11_put_60 : decode cX11_put 60 = .ok (.aload_n 0, 1) := by decide +kernel
theorem dX11_put_61 : decode cX11_put 61 = .ok (.iconst 1, 1) := by decide +kernel
theorem dX11_put_62 : decode cX11_put 62 = .ok (.iload_n 2, 1) := by decide +kernel
theorem dX11_put_63 : decode cX11_put 63 = .ok (.iadd, 1) := by decide +kernel
theorem dX11_put_64 : decode cX11_put 64 = .ok (.invokevirtual 183, 3) := by decide +kernel
theorem dX11_put_67 : decode cX11_put 67 = .ok (.ireturn, 1) := by decide +kernel
theorem dX11_takeBack_0 : decode cX11_takeBack 0 = .ok (.aload_n 0, 1) := by decide +kernel
theorem dX11_takeBack_1 : decode cX11_takeBack 1 = .ok (.iload_n 1, 1) := by decide +kernel
theorem dX11_takeBack_2 : decode cX11_takeBack 2 = .ok (.invokevirtual 201, 3) := by decide +kernel
theorem dX11_takeBack_5 : decode cX11_takeBack 5 = .ok (.ifCond .ne 6, 3) := by decide +kernel
theorem dX11_takeBack_8 : decode cX11_takeBack 8 = .ok (.ldc 205, 2) := by decide +kernel
theorem dX11_takeBack_10 : decode cX11_takeBack 10 = .ok (.ireturn, 1) := by decide +kernel
theorem dX11_takeBack_11 : decode cX11_takeBack 11 = .ok (.aload_n 0, 1) := by decide +kernel
theorem dX11_takeBack_12 : decode cX11_takeBack 12 = .ok (.getfield 38, 3) := by decide +kernel
theorem dX11_takeBack_15 : decode cX11_takeBack 15 = .ok (.iload_n 1, 1) := by decide +kernel
theorem dX11_takeBack_16 : decode cX11_takeBack 16 = .ok (.iaload, 1) := by decide +kernel
theorem dX11_takeBack_17 : decode cX11_takeBack 17 = .ok (.bipush 8, 2) := by decide +kernel
theorem dX11_takeBack_19 : decode cX11_takeBack 19 = .ok (.if_icmp .ge 12, 3) := by decide +kernel
theorem dX11_takeBack_22 : decode cX11_takeBack 22 = .ok (.aload_n 0, 1) := by decide +kernel
theorem dX11_takeBack_23 : decode cX11_takeBack 23 = .ok (.getfield 38, 3) := by decide +kernel
theorem dX11_takeBack_26 : decode cX11_takeBack 26 = .ok (.iload_n 1, 1) := by decide +kernel
theorem dX11_takeBack_27 : decode cX11_takeBack 27 = .ok (.iaload, 1) := by decide +kernel
theorem dX11_takeBack_28 : decode cX11_takeBack 28 = .ok (.ifCond .ne 6, 3) := by decide +kernel
theorem dX11_takeBack_31 : decode cX11_takeBack 31 = .ok (.ldc 224, 2) := by decide +kernel
theorem dX11_takeBack_33 : decode cX11_takeBack 33 = .ok (.ireturn, 1) := by decide +kernel
theorem dX11_takeBack_34 : decode cX11_takeBack 34 = .ok (.aload_n 0, 1) := by decide +kernel
theorem dX11_takeBack_35 : decode cX11_takeBack 35 = .ok (.invokevirtual 225, 3) := by decide +kernel
theorem dX11_takeBack_38 : decode cX11_takeBack 38 = .ok (.aload_n 0, 1) := by decide +kernel
theorem dX11_takeBack_39 : decode cX11_takeBack 39 = .ok (.getfield 38, 3) := by decide +kernel
theorem dX11_takeBack_42 : decode cX11_takeBack 42 = .ok (.iload_n 1, 1) := by decide +kernel
theorem dX11_takeBack_43 : decode cX11_takeBack 43 = .ok (.iconst 0, 1) := by decide +kernel
theorem dX11_takeBack_44 : decode cX11_takeBack 44 = .ok (.iastore, 1) := by decide +kernel
theorem dX11_takeBack_45 : decode cX11_takeBack 45 = .ok (.aload_n 0, 1) := by decide +kernel
theorem dX11_takeBack_46 : decode cX11_takeBack 46 = .ok (.iconst 0, 1) := by decide +kernel
theorem dX11_takeBack_47 : decode cX11_takeBack 47 = .ok (.invokevirtual 183, 3) := by decide +kernel
theorem dX11_takeBack_50 : decode cX11_takeBack 50 = .ok (.ireturn, 1) := by decide +kernel
theorem dX11_sortOne_0 : decode cX11_sortOne 0 = .ok (.aload_n 0, 1) := by decide +kernel
theorem dX11_sortOne_1 : decode cX11_sortOne 1 = .ok (.iload_n 1, 1) := by decide +kernel
theorem dX11_sortOne_2 : decode cX11_sortOne 2 = .ok (.invokevirtual 192, 3) := by decide +kernel
theorem dX11_sortOne_5 : decode cX11_sortOne 5 = .ok (.istore_n 2, 1) := by decide +kernel
theorem dX11_sortOne_6 : decode cX11_sortOne 6 = .ok (.aload_n 0, 1) := by decide +kernel
theorem dX11_sortOne_7 : decode cX11_sortOne 7 = .ok (.getfield 38, 3) := by decide +kernel
theorem dX11_sortOne_10 : decode cX11_sortOne 10 = .ok (.iload_n 1, 1) := by decide +kernel
theorem dX11_sortOne_11 : decode cX11_sortOne 11 = .ok (.iload_n 2, 1) := by decide +kernel
theorem dX11_sortOne_12 : decode cX11_sortOne 12 = .ok (.iconst (-1), 1) := by decide +kernel
theorem dX11_sortOne_13 : decode cX11_sortOne 13 = .ok (.if_icmp .ne 8, 3) := by decide +kernel
theorem dX11_sortOne_16 : decode cX11_sortOne 16 = .ok (.bipush 7, 2) := by decide +kernel
theorem dX11_sortOne_18 : decode cX11_sortOne 18 = .ok (.goto 6, 3) := by decide +kernel
theorem dX11_sortOne_21 : decode cX11_sortOne 21 = .ok (.iconst 1, 1) := by decide +kernel
theorem dX11_sortOne_22 : decode cX11_sortOne 22 = .ok (.iload_n 2, 1) := by decide +kernel
theorem dX11_sortOne_23 : decode cX11_sortOne 23 = .ok (.iadd, 1) := by decide +kernel
theorem dX11_sortOne_24 : decode cX11_sortOne 24 = .ok (.iastore, 1) := by decide +kernel
theorem dX11_sortOne_25 : decode cX11_sortOne 25 = .ok (.aload_n 0, 1) := by decide +kernel
theorem dX11_sortOne_26 : decode cX11_sortOne 26 = .ok (.getfield 38, 3) := by decide +kernel
theorem dX11_sortOne_29 : decode cX11_sortOne 29 = .ok (.bipush 30, 2) := by decide +kernel
theorem dX11_sortOne_31 : decode cX11_sortOne 31 = .ok (.aload_n 0, 1) := by decide +kernel
theorem dX11_sortOne_32 : decode cX11_sortOne 32 = .ok (.getfield 38, 3) := by decide +kernel
theorem dX11_sortOne_35 : decode cX11_sortOne 35 = .ok (.bipush 30, 2) := by decide +kernel
theorem dX11_sortOne_37 : decode cX11_sortOne 37 = .ok (.iaload, 1) := by decide +kernel
theorem dX11_sortOne_38 : decode cX11_sortOne 38 = .ok (.ldc 228, 2) := by decide +kernel
theorem dX11_sortOne_40 : decode cX11_sortOne 40 = .ok (.if_icmp .ge 15, 3) := by decide +kernel
theorem dX11_sortOne_43 : decode cX11_sortOne 43 = .ok (.aload_n 0, 1) := by decide +kernel
theorem dX11_sortOne_44 : decode cX11_sortOne 44 = .ok (.getfield 38, 3) := by decide +kernel
theorem dX11_sortOne_47 : decode cX11_sortOne 47 = .ok (.bipush 30, 2) := by decide +kernel
theorem dX11_sortOne_49 : decode cX11_sortOne 49 = .ok (.iaload, 1) := by decide +kernel
theorem dX11_sortOne_50 : decode cX11_sortOne 50 = .ok (.iconst 1, 1) := by decide +kernel
theorem dX11_sortOne_51 : decode cX11_sortOne 51 = .ok (.iadd, 1) := by decide +kernel
theorem dX11_sortOne_52 : decode cX11_sortOne 52 = .ok (.goto 5, 3) := by decide +kernel
theorem dX11_sortOne_55 : decode cX11_sortOne 55 = .ok (.ldc 228, 2) := by decide +kernel
theorem dX11_sortOne_57 : decode cX11_sortOne 57 = .ok (.iastore, 1) := by decide +kernel
theorem dX11_sortOne_58 : decode cX11_sortOne 58 = .ok (.return_, 1) := by decide +kernel
theorem dX11_sort_0 : decode cX11_sort 0 = .ok (.aload_n 0, 1) := by decide +kernel
theorem dX11_sort_1 : decode cX11_sort 1 = .ok (.iconst 0, 1) := by decide +kernel
theorem dX11_sort_2 : decode cX11_sort 2 = .ok (.invokevirtual 183, 3) := by decide +kernel
theorem dX11_sort_5 : decode cX11_sort 5 = .ok (.istore_n 1, 1) := by decide +kernel
theorem dX11_sort_6 : decode cX11_sort 6 = .ok (.iload_n 1, 1) := by decide +kernel
theorem dX11_sort_7 : decode cX11_sort 7 = .ok (.ifCond .ne 6, 3) := by decide +kernel
theorem dX11_sort_10 : decode cX11_sort 10 = .ok (.ldc 224, 2) := by decide +kernel
theorem dX11_sort_12 : decode cX11_sort 12 = .ok (.ireturn, 1) := by decide +kernel
theorem dX11_sort_13 : decode cX11_sort 13 = .ok (.aload_n 0, 1) := by decide +kernel
theorem dX11_sort_14 : decode cX11_sort 14 = .ok (.invokevirtual 225, 3) := by decide +kernel
theorem dX11_sort_17 : decode cX11_sort 17 = .ok (.iconst 0, 1) := by decide +kernel
theorem dX11_sort_18 : decode cX11_sort 18 = .ok (.istore_n 2, 1) := by decide +kernel
theorem dX11_sort_19 : decode cX11_sort 19 = .ok (.iload_n 2, 1) := by decide +kernel
theorem dX11_sort_20 : decode cX11_sort 20 = .ok (.aload_n 0, 1) := by decide +kernel
theorem dX11_sort_21 : decode cX11_sort 21 = .ok (.getfield 145, 3) := by decide +kernel
theorem dX11_sort_24 : decode cX11_sort 24 = .ok (.if_icmp .ge 22, 3) := by decide +kernel
theorem dX11_sort_27 : decode cX11_sort 27 = .ok (.iload_n 1, 1) := by decide +kernel
theorem dX11_sort_28 : decode cX11_sort 28 = .ok (.iload_n 2, 1) := by decide +kernel
theorem dX11_sort_29 : decode cX11_sort 29 = .ok (.invokestatic 177, 3) := by decide +kernel
theorem dX11_sort_32 : decode cX11_sort 32 = .ok (.ifCond .eq 8, 3) := by decide +kernel
theorem dX11_sort_35 : decode cX11_sort 35 = .ok (.aload_n 0, 1) := by decide +kernel
theorem dX11_sort_36 : decode cX11_sort 36 = .ok (.iload_n 2, 1) := by decide +kernel
theorem dX11_sort_37 : decode cX11_sort 37 = .ok (.invokevirtual 229, 3) := by decide +kernel
theorem dX11_sort_40 : decode cX11_sort 40 = .ok (.iinc 2 1, 3) := by decide +kernel
theorem dX11_sort_43 : decode cX11_sort 43 = .ok (.goto (-24), 3) := by decide +kernel
theorem dX11_sort_46 : decode cX11_sort 46 = .ok (.iload_n 1, 1) := by decide +kernel
theorem dX11_sort_47 : decode cX11_sort 47 = .ok (.invokestatic 233, 3) := by decide +kernel
theorem dX11_sort_50 : decode cX11_sort 50 = .ok (.ireturn, 1) := by decide +kernel
theorem dX11_sew_0 : decode cX11_sew 0 = .ok (.aload_n 0, 1) := by decide +kernel
theorem dX11_sew_1 : decode cX11_sew 1 = .ok (.iload_n 1, 1) := by decide +kernel
theorem dX11_sew_2 : decode cX11_sew 2 = .ok (.invokevirtual 201, 3) := by decide +kernel
theorem dX11_sew_5 : decode cX11_sew 5 = .ok (.ifCond .eq 11, 3) := by decide +kernel
theorem dX11_sew_8 : decode cX11_sew 8 = .ok (.aload_n 0, 1) := by decide +kernel
theorem dX11_sew_9 : decode cX11_sew 9 = .ok (.iload_n 2, 1) := by decide +kernel
theorem dX11_sew_10 : decode cX11_sew 10 = .ok (.invokevirtual 215, 3) := by decide +kernel
theorem dX11_sew_13 : decode cX11_sew 13 = .ok (.ifCond .ne 6, 3) := by decide +kernel
theorem dX11_sew_16 : decode cX11_sew 16 = .ok (.ldc 205, 2) := by decide +kernel
theorem dX11_sew_18 : decode cX11_sew 18 = .ok (.ireturn, 1) := by decide +kernel
theorem dX11_sew_19 : decode cX11_sew 19 = .ok (.aload_n 0, 1) := by decide +kernel
theorem dX11_sew_20 : decode cX11_sew 20 = .ok (.getfield 38, 3) := by decide +kernel
theorem dX11_sew_23 : decode cX11_sew 23 = .ok (.iload_n 1, 1) := by decide +kernel
theorem dX11_sew_24 : decode cX11_sew 24 = .ok (.iaload, 1) := by decide +kernel
theorem dX11_sew_25 : decode cX11_sew 25 = .ok (.bipush 8, 2) := by decide +kernel
theorem dX11_sew_27 : decode cX11_sew 27 = .ok (.if_icmp .ge 26, 3) := by decide +kernel
theorem dX11_sew_30 : decode cX11_sew 30 = .ok (.aload_n 0, 1) := by decide +kernel
theorem dX11_sew_31 : decode cX11_sew 31 = .ok (.iload_n 2, 1) := by decide +kernel
theorem dX11_sew_32 : decode cX11_sew 32 = .ok (.invokevirtual 218, 3) := by decide +kernel
theorem dX11_sew_35 : decode cX11_sew 35 = .ok (.iconst (-1), 1) := by decide +kernel
theorem dX11_sew_36 : decode cX11_sew 36 = .ok (.if_icmp .ne 17, 3) := by decide +kernel
theorem dX11_sew_39 : decode cX11_sew 39 = .ok (.aload_n 0, 1) := by decide +kernel
theorem dX11_sew_40 : decode cX11_sew 40 = .ok (.iload_n 1, 1) := by decide +kernel
theorem dX11_sew_41 : decode cX11_sew 41 = .ok (.invokevirtual 180, 3) := by decide +kernel
theorem dX11_sew_44 : decode cX11_sew 44 = .ok (.aload_n 0, 1) := by decide +kernel
theorem dX11_sew_45 : decode cX11_sew 45 = .ok (.getfield 23, 3) := by decide +kernel
theorem dX11_sew_48 : decode cX11_sew 48 = .ok (.iload_n 2, 1) := by decide +kernel
theorem dX11_sew_49 : decode cX11_sew 49 = .ok (.iaload, 1) := by decide +kernel
theorem dX11_sew_50 : decode cX11_sew 50 = .ok (.if_icmp .ge 6, 3) := by decide +kernel
theorem dX11_sew_53 : decode cX11_sew 53 = .ok (.ldc 224, 2) := by decide +kernel
theorem dX11_sew_55 : decode cX11_sew 55 = .ok (.ireturn, 1) := by decide +kernel
theorem dX11_sew_56 : decode cX11_sew 56 = .ok (.aload_n 0, 1) := by decide +kernel
theorem dX11_sew_57 : decode cX11_sew 57 = .ok (.invokevirtual 225, 3) := by decide +kernel
theorem dX11_sew_60 : decode cX11_sew 60 = .ok (.aload_n 0, 1) := by decide +kernel
theorem dX11_sew_61 : decode cX11_sew 61 = .ok (.getfield 38, 3) := by decide +kernel
theorem dX11_sew_64 : decode cX11_sew 64 = .ok (.iload_n 1, 1) := by decide +kernel
theorem dX11_sew_65 : decode cX11_sew 65 = .ok (.bipush 8, 2) := by decide +kernel
theorem dX11_sew_67 : decode cX11_sew 67 = .ok (.iload_n 2, 1) := by decide +kernel
theorem dX11_sew_68 : decode cX11_sew 68 = .ok (.iadd, 1) := by decide +kernel
theorem dX11_sew_69 : decode cX11_sew 69 = .ok (.iastore, 1) := by decide +kernel
theorem dX11_sew_70 : decode cX11_sew 70 = .ok (.aload_n 0, 1) := by decide +kernel
theorem dX11_sew_71 : decode cX11_sew 71 = .ok (.iload_n 1, 1) := by decide +kernel
theorem dX11_sew_72 : decode cX11_sew 72 = .ok (.invokevirtual 180, 3) := by decide +kernel
theorem dX11_sew_75 : decode cX11_sew 75 = .ok (.ireturn, 1) := by decide +kernel
theorem dX11_unpick_0 : decode cX11_unpick 0 = .ok (.aload_n 0, 1) := by decide +kernel
theorem dX11_unpick_1 : decode cX11_unpick 1 = .ok (.iload_n 1, 1) := by decide +kernel
theorem dX11_unpick_2 : decode cX11_unpick 2 = .ok (.invokevirtual 215, 3) := by decide +kernel
theorem dX11_unpick_5 : decode cX11_unpick 5 = .ok (.ifCond .ne 6, 3) := by decide +kernel
theorem dX11_unpick_8 : decode cX11_unpick 8 = .ok (.ldc 205, 2) := by decide +kernel
theorem dX11_unpick_10 : decode cX11_unpick 10 = .ok (.ireturn, 1) := by decide +kernel
theorem dX11_unpick_11 : decode cX11_unpick 11 = .ok (.aload_n 0, 1) := by decide +kernel
theorem dX11_unpick_12 : decode cX11_unpick 12 = .ok (.iload_n 1, 1) := by decide +kernel
theorem dX11_unpick_13 : decode cX11_unpick 13 = .ok (.invokevirtual 218, 3) := by decide +kernel
theorem dX11_unpick_16 : decode cX11_unpick 16 = .ok (.istore_n 2, 1) := by decide +kernel
theorem dX11_unpick_17 : decode cX11_unpick 17 = .ok (.iload_n 2, 1) := by decide +kernel
theorem dX11_unpick_18 : decode cX11_unpick 18 = .ok (.iconst (-1), 1) := by decide +kernel
theorem dX11_unpick_19 : decode cX11_unpick 19 = .ok (.if_icmp .ne 6, 3) := by decide +kernel
theorem dX11_unpick_22 : decode cX11_unpick 22 = .ok (.ldc 224, 2) := by decide +kernel
theorem dX11_unpick_24 : decode cX11_unpick 24 = .ok (.ireturn, 1) := by decide +kernel
theorem dX11_unpick_25 : decode cX11_unpick 25 = .ok (.aload_n 0, 1) := by decide +kernel
theorem dX11_unpick_26 : decode cX11_unpick 26 = .ok (.invokevirtual 225, 3) := by decide +kernel
theorem dX11_unpick_29 : decode cX11_unpick 29 = .ok (.aload_n 0, 1) := by decide +kernel
theorem dX11_unpick_30 : decode cX11_unpick 30 = .ok (.getfield 38, 3) := by decide +kernel
theorem dX11_unpick_33 : decode cX11_unpick 33 = .ok (.iload_n 2, 1) := by decide +kernel
theorem dX11_unpick_34 : decode cX11_unpick 34 = .ok (.iconst 0, 1) := by decide +kernel
theorem dX11_unpick_35 : decode cX11_unpick 35 = .ok (.iastore, 1) := by decide +kernel
theorem dX11_unpick_36 : decode cX11_unpick 36 = .ok (.aload_n 0, 1) := by decide +kernel
theorem dX11_unpick_37 : decode cX11_unpick 37 = .ok (.getfield 38, 3) := by decide +kernel
theorem dX11_unpick_40 : decode cX11_unpick 40 = .ok (.bipush 12, 2) := by decide +kernel
theorem dX11_unpick_42 : decode cX11_unpick 42 = .ok (.iload_n 2, 1) := by decide +kernel
theorem dX11_unpick_43 : decode cX11_unpick 43 = .ok (.iadd, 1) := by decide +kernel
theorem dX11_unpick_44 : decode cX11_unpick 44 = .ok (.iconst 1, 1) := by decide +kernel
theorem dX11_unpick_45 : decode cX11_unpick 45 = .ok (.iastore, 1) := by decide +kernel
theorem dX11_unpick_46 : decode cX11_unpick 46 = .ok (.iload_n 2, 1) := by decide +kernel
theorem dX11_unpick_47 : decode cX11_unpick 47 = .ok (.ireturn, 1) := by decide +kernel
theorem dX11_pull_0 : decode cX11_pull 0 = .ok (.aload_n 0, 1) := by decide +kernel
theorem dX11_pull_1 : decode cX11_pull 1 = .ok (.iload_n 1, 1) := by decide +kernel
theorem dX11_pull_2 : decode cX11_pull 2 = .ok (.invokevirtual 201, 3) := by decide +kernel
theorem dX11_pull_5 : decode cX11_pull 5 = .ok (.ifCond .ne 6, 3) := by decide +kernel
theorem dX11_pull_8 : decode cX11_pull 8 = .ok (.ldc 205, 2) := by decide +kernel
theorem dX11_pull_10 : decode cX11_pull 10 = .ok (.ireturn, 1) := by decide +kernel
theorem dX11_pull_11 : decode cX11_pull 11 = .ok (.aload_n 0, 1) := by decide +kernel
theorem dX11_pull_12 : decode cX11_pull 12 = .ok (.getfield 38, 3) := by decide +kernel
theorem dX11_pull_15 : decode cX11_pull 15 = .ok (.iload_n 1, 1) := by decide +kernel
theorem dX11_pull_16 : decode cX11_pull 16 = .ok (.iaload, 1) := by decide +kernel
theorem dX11_pull_17 : decode cX11_pull 17 = .ok (.bipush 8, 2) := by decide +kernel
theorem dX11_pull_19 : decode cX11_pull 19 = .ok (.if_icmp .ge 15, 3) := by decide +kernel
theorem dX11_pull_22 : decode cX11_pull 22 = .ok (.aload_n 0, 1) := by decide +kernel
theorem dX11_pull_23 : decode cX11_pull 23 = .ok (.getfield 38, 3) := by decide +kernel
theorem dX11_pull_26 : decode cX11_pull 26 = .ok (.bipush 12, 2) := by decide +kernel
theorem dX11_pull_28 : decode cX11_pull 28 = .ok (.iload_n 1, 1) := by decide +kernel
theorem dX11_pull_29 : decode cX11_pull 29 = .ok (.iadd, 1) := by decide +kernel
theorem dX11_pull_30 : decode cX11_pull 30 = .ok (.iaload, 1) := by decide +kernel
theorem dX11_pull_31 : decode cX11_pull 31 = .ok (.ifCond .ne 6, 3) := by decide +kernel
theorem dX11_pull_34 : decode cX11_pull 34 = .ok (.ldc 224, 2) := by decide +kernel
theorem dX11_pull_36 : decode cX11_pull 36 = .ok (.ireturn, 1) := by decide +kernel
theorem dX11_pull_37 : decode cX11_pull 37 = .ok (.aload_n 0, 1) := by decide +kernel
theorem dX11_pull_38 : decode cX11_pull 38 = .ok (.invokevirtual 225, 3) := by decide +kernel
theorem dX11_pull_41 : decode cX11_pull 41 = .ok (.aload_n 0, 1) := by decide +kernel
theorem dX11_pull_42 : decode cX11_pull 42 = .ok (.getfield 38, 3) := by decide +kernel
theorem dX11_pull_45 : decode cX11_pull 45 = .ok (.bipush 12, 2) := by decide +kernel
theorem dX11_pull_47 : decode cX11_pull 47 = .ok (.iload_n 1, 1) := by decide +kernel
theorem dX11_pull_48 : decode cX11_pull 48 = .ok (.iadd, 1) := by decide +kernel
theorem dX11_pull_49 : decode cX11_pull 49 = .ok (.iconst 0, 1) := by decide +kernel
theorem dX11_pull_50 : decode cX11_pull 50 = .ok (.iastore, 1) := by decide +kernel
theorem dX11_pull_51 : decode cX11_pull 51 = .ok (.aload_n 0, 1) := by decide +kernel
theorem dX11_pull_52 : decode cX11_pull 52 = .ok (.iload_n 1, 1) := by decide +kernel
theorem dX11_pull_53 : decode cX11_pull 53 = .ok (.invokevirtual 180, 3) := by decide +kernel
theorem dX11_pull_56 : decode cX11_pull 56 = .ok (.ireturn, 1) := by decide +kernel
theorem dX11_up_0 : decode cX11_up 0 = .ok (.aload_n 0, 1) := by decide +kernel
theorem dX11_up_1 : decode cX11_up 1 = .ok (.iload_n 1, 1) := by decide +kernel
theorem dX11_up_2 : decode cX11_up 2 = .ok (.invokevirtual 206, 3) := by decide +kernel
theorem dX11_up_5 : decode cX11_up 5 = .ok (.ifCond .ne 6, 3) := by decide +kernel
theorem dX11_up_8 : decode cX11_up 8 = .ok (.ldc 205, 2) := by decide +kernel
theorem dX11_up_10 : decode cX11_up 10 = .ok (.ireturn, 1) := by decide +kernel
theorem dX11_up_11 : decode cX11_up 11 = .ok (.aload_n 0, 1) := by decide +kernel
theorem dX11_up_12 : decode cX11_up 12 = .ok (.iload_n 1, 1) := by decide +kernel
theorem dX11_up_13 : decode cX11_up 13 = .ok (.invokevirtual 209, 3) := by decide +kernel
theorem dX11_up_16 : decode cX11_up 16 = .ok (.istore_n 2, 1) := by decide +kernel
theorem dX11_up_17 : decode cX11_up 17 = .ok (.iload_n 2, 1) := by decide +kernel
theorem dX11_up_18 : decode cX11_up 18 = .ok (.ifCond .ne 6, 3) := by decide +kernel
theorem dX11_up_21 : decode cX11_up 21 = .ok (.ldc 224, 2) := by decide +kernel
theorem dX11_up_23 : decode cX11_up 23 = .ok (.ireturn, 1) := by decide +kernel
theorem dX11_up_24 : decode cX11_up 24 = .ok (.aload_n 0, 1) := by decide +kernel
theorem dX11_up_25 : decode cX11_up 25 = .ok (.invokevirtual 225, 3) := by decide +kernel
theorem dX11_up_28 : decode cX11_up 28 = .ok (.aload_n 0, 1) := by decide +kernel
theorem dX11_up_29 : decode cX11_up 29 = .ok (.getfield 38, 3) := by decide +kernel
theorem dX11_up_32 : decode cX11_up 32 = .ok (.bipush 24, 2) := by decide +kernel
theorem dX11_up_34 : decode cX11_up 34 = .ok (.iload_n 2, 1) := by decide +kernel
theorem dX11_up_35 : decode cX11_up 35 = .ok (.iadd, 1) := by decide +kernel
theorem dX11_up_36 : decode cX11_up 36 = .ok (.aload_n 0, 1) := by decide +kernel
theorem dX11_up_37 : decode cX11_up 37 = .ok (.getfield 38, 3) := by decide +kernel
theorem dX11_up_40 : decode cX11_up 40 = .ok (.bipush 24, 2) := by decide +kernel
theorem dX11_up_42 : decode cX11_up 42 = .ok (.iload_n 2, 1) := by decide +kernel
theorem dX11_up_43 : decode cX11_up 43 = .ok (.iadd, 1) := by decide +kernel
theorem dX11_up_44 : decode cX11_up 44 = .ok (.iconst 1, 1) := by decide +kernel
theorem dX11_up_45 : decode cX11_up 45 = .ok (.isub, 1) := by decide +kernel
theorem dX11_up_46 : decode cX11_up 46 = .ok (.iaload, 1) := by decide +kernel
theorem dX11_up_47 : decode cX11_up 47 = .ok (.iastore, 1) := by decide +kernel
theorem dX11_up_48 : decode cX11_up 48 = .ok (.aload_n 0, 1) := by decide +kernel
theorem dX11_up_49 : decode cX11_up 49 = .ok (.getfield 38, 3) := by decide +kernel
theorem dX11_up_52 : decode cX11_up 52 = .ok (.bipush 24, 2) := by decide +kernel
theorem dX11_up_54 : decode cX11_up 54 = .ok (.iload_n 2, 1) := by decide +kernel
theorem dX11_up_55 : decode cX11_up 55 = .ok (.iadd, 1) := by decide +kernel
theorem dX11_up_56 : decode cX11_up 56 = .ok (.iconst 1, 1) := by decide +kernel
theorem dX11_up_57 : decode cX11_up 57 = .ok (.isub, 1) := by decide +kernel
theorem dX11_up_58 : decode cX11_up 58 = .ok (.iload_n 1, 1) := by decide +kernel
theorem dX11_up_59 : decode cX11_up 59 = .ok (.iastore, 1) := by decide +kernel
theorem dX11_up_60 : decode cX11_up 60 = .ok (.iload_n 2, 1) := by decide +kernel
theorem dX11_up_61 : decode cX11_up 61 = .ok (.iconst 1, 1) := by decide +kernel
theorem dX11_up_62 : decode cX11_up 62 = .ok (.isub, 1) := by decide +kernel
theorem dX11_up_63 : decode cX11_up 63 = .ok (.ireturn, 1) := by decide +kernel
theorem dX11_draw_0 : decode cX11_draw 0 = .ok (.aload_n 0, 1) := by decide +kernel
theorem dX11_draw_1 : decode cX11_draw 1 = .ok (.aload_n 0, 1) := by decide +kernel
theorem dX11_draw_2 : decode cX11_draw 2 = .ok (.getfield 236, 3) := by decide +kernel
theorem dX11_draw_5 : decode cX11_draw 5 = .ok (.i2l, 1) := by decide +kernel
theorem dX11_draw_6 : decode cX11_draw 6 = .ok (.ldc2_w 239, 3) := by decide +kernel
theorem dX11_draw_9 : decode cX11_draw 9 = .ok (.lmul, 1) := by decide +kernel
theorem dX11_draw_10 : decode cX11_draw 10 = .ok (.ldc2_w 241, 3) := by decide +kernel
theorem dX11_draw_13 : decode cX11_draw 13 = .ok (.ladd, 1) := by decide +kernel
theorem dX11_draw_14 : decode cX11_draw 14 = .ok (.ldc2_w 243, 3) := by decide +kernel
theorem dX11_draw_17 : decode cX11_draw 17 = .ok (.lrem, 1) := by decide +kernel
theorem dX11_draw_18 : decode cX11_draw 18 = .ok (.l2i, 1) := by decide +kernel
theorem dX11_draw_19 : decode cX11_draw 19 = .ok (.putfield 236, 3) := by decide +kernel
theorem dX11_draw_22 : decode cX11_draw 22 = .ok (.aload_n 0, 1) := by decide +kernel
theorem dX11_draw_23 : decode cX11_draw 23 = .ok (.getfield 236, 3) := by decide +kernel
theorem dX11_draw_26 : decode cX11_draw 26 = .ok (.ldc 245, 2) := by decide +kernel
theorem dX11_draw_28 : decode cX11_draw 28 = .ok (.idiv, 1) := by decide +kernel
theorem dX11_draw_29 : decode cX11_draw 29 = .ok (.iload_n 1, 1) := by decide +kernel
theorem dX11_draw_30 : decode cX11_draw 30 = .ok (.irem, 1) := by decide +kernel
theorem dX11_draw_31 : decode cX11_draw 31 = .ok (.ireturn, 1) := by decide +kernel
theorem dX11_drift_0 : decode cX11_drift 0 = .ok (.iload_n 1, 1) := by decide +kernel
theorem dX11_drift_1 : decode cX11_drift 1 = .ok (.iconst 1, 1) := by decide +kernel
theorem dX11_drift_2 : decode cX11_drift 2 = .ok (.bipush 60, 2) := by decide +kernel
theorem dX11_drift_4 : decode cX11_drift 4 = .ok (.invokestatic 73, 3) := by decide +kernel
theorem dX11_drift_7 : decode cX11_drift 7 = .ok (.ifCond .ne 6, 3) := by decide +kernel
theorem dX11_drift_10 : decode cX11_drift 10 = .ok (.ldc 77, 2) := by decide +kernel
theorem dX11_drift_12 : decode cX11_drift 12 = .ok (.ireturn, 1) := by decide +kernel
theorem dX11_drift_13 : decode cX11_drift 13 = .ok (.aload_n 0, 1) := by decide +kernel
theorem dX11_drift_14 : decode cX11_drift 14 = .ok (.getfield 138, 3) := by decide +kernel
theorem dX11_drift_17 : decode cX11_drift 17 = .ok (.ifCond .ne 6, 3) := by decide +kernel
theorem dX11_drift_20 : decode cX11_drift 20 = .ok (.ldc 224, 2) := by decide +kernel
theorem dX11_drift_22 : decode cX11_drift 22 = .ok (.ireturn, 1) := by decide +kernel
theorem dX11_drift_23 : decode cX11_drift 23 = .ok (.aload_n 0, 1) := by decide +kernel
theorem dX11_drift_24 : decode cX11_drift 24 = .ok (.invokevirtual 225, 3) := by decide +kernel
theorem dX11_drift_27 : decode cX11_drift 27 = .ok (.iconst 0, 1) := by decide +kernel
theorem dX11_drift_28 : decode cX11_drift 28 = .ok (.istore_n 2, 1) := by decide +kernel
theorem dX11_drift_29 : decode cX11_drift 29 = .ok (.iload_n 2, 1) := by decide +kernel
theorem dX11_drift_30 : decode cX11_drift 30 = .ok (.iload_n 1, 1) := by decide +kernel
theorem dX11_drift_31 : decode cX11_drift 31 = .ok (.if_icmp .ge 101, 3) := by decide +kernel
theorem dX11_drift_34 : decode cX11_drift 34 = .ok (.aload_n 0, 1) := by decide +kernel
theorem dX11_drift_35 : decode cX11_drift 35 = .ok (.getfield 145, 3) := by decide +kernel
theorem dX11_drift_38 : decode cX11_drift 38 = .ok (.ifCond .le 94, 3) := by decide +kernel
theorem dX11_drift_41 : decode cX11_drift 41 = .ok (.aload_n 0, 1) := by decide +kernel
theorem dX11_drift_42 : decode cX11_drift 42 = .ok (.aload_n 0, 1) := by decide +kernel
theorem dX11_drift_43 : decode cX11_drift 43 = .ok (.getfield 145, 3) := by decide +kernel
theorem dX11_drift_46 : decode cX11_drift 46 = .ok (.invokevirtual 246, 3) := by decide +kernel
theorem dX11_drift_49 : decode cX11_drift 49 = .ok (.istore_n 3, 1) := by decide +kernel
theorem dX11_drift_50 : decode cX11_drift 50 = .ok (.aload_n 0, 1) := by decide +kernel
theorem dX11_drift_51 : decode cX11_drift 51 = .ok (.bipush 100, 2) := by decide +kernel
theorem dX11_drift_53 : decode cX11_drift 53 = .ok (.invokevirtual 246, 3) := by decide +kernel
theorem dX11_drift_56 : decode cX11_drift 56 = .ok (.istore 4, 2) := by decide +kernel
theorem dX11_drift_58 : decode cX11_drift 58 = .ok (.aload_n 0, 1) := by decide +kernel
theorem dX11_drift_59 : decode cX11_drift 59 = .ok (.getfield 38, 3) := by decide +kernel
theorem dX11_drift_62 : decode cX11_drift 62 = .ok (.iload_n 3, 1) := by decide +kernel
theorem dX11_drift_63 : decode cX11_drift 63 = .ok (.iaload, 1) := by decide +kernel
theorem dX11_drift_64 : decode cX11_drift 64 = .ok (.ifCond .ne 37, 3) := by decide +kernel
theorem dX11_drift_67 : decode cX11_drift 67 = .ok (.iload 4, 2) := by decide +kernel
theorem dX11_drift_69 : decode cX11_drift 69 = .ok (.aload_n 0, 1) := by decide +kernel
theorem dX11_drift_70 : decode cX11_drift 70 = .ok (.getfield 142, 3) := by decide +kernel
theorem dX11_drift_73 : decode cX11_drift 73 = .ok (.if_icmp .ge 20, 3) := by decide +kernel
theorem dX11_drift_76 : decode cX11_drift 76 = .ok (.aload_n 0, 1) := by decide +kernel
theorem dX11_drift_77 : decode cX11_drift 77 = .ok (.getfield 38, 3) := by decide +kernel
theorem dX11_drift_80 : decode cX11_drift 80 = .ok (.iload_n 3, 1) := by decide +kernel
theorem dX11_drift_81 : decode cX11_drift 81 = .ok (.iconst 1, 1) := by decide +kernel
theorem dX11_drift_82 : decode cX11_drift 82 = .ok (.aload_n 0, 1) := by decide +kernel
theorem dX11_drift_83 : decode cX11_drift 83 = .ok (.bipush 6, 2) := by decide +kernel
theorem dX11_drift_85 : decode cX11_drift 85 = .ok (.invokevirtual 246, 3) := by decide +kernel
theorem dX11_drift_88 : decode cX11_drift 88 = .ok (.iadd, 1) := by decide +kernel
theorem dX11_drift_89 : decode cX11_drift 89 = .ok (.iastore, 1) := by decide +kernel
theorem dX11_drift_90 : decode cX11_drift 90 = .ok (.goto 36, 3) := by decide +kernel
theorem dX11_drift_93 : decode cX11_drift 93 = .ok (.aload_n 0, 1) := by decide +kernel
theorem dX11_drift_94 : decode cX11_drift 94 = .ok (.iload_n 3, 1) := by decide +kernel
theorem dX11_drift_95 : decode cX11_drift 95 = .ok (.invokevirtual 229, 3) := by decide +kernel
theorem dX11_drift_98 : decode cX11_drift 98 = .ok (.goto 28, 3) := by decide +kernel
theorem dX11_drift_101 : decode cX11_drift 101 = .ok (.aload_n 0, 1) := by decide +kernel
theorem dX11_drift_102 : decode cX11_drift 102 = .ok (.getfield 38, 3) := by decide +kernel
theorem dX11_drift_105 : decode cX11_drift 105 = .ok (.iload_n 3, 1) := by decide +kernel
theorem dX11_drift_106 : decode cX11_drift 106 = .ok (.iaload, 1) := by decide +kernel
theorem dX11_drift_107 : decode cX11_drift 107 = .ok (.bipush 8, 2) := by decide +kernel
theorem dX11_drift_109 : decode cX11_drift 109 = .ok (.if_icmp .ge 17, 3) := by decide +kernel
theorem dX11_drift_112 : decode cX11_drift 112 = .ok (.iload 4, 2) := by decide +kernel
theorem dX11_drift_114 : decode cX11_drift 114 = .ok (.bipush 90, 2) := by decide +kernel
theorem dX11_drift_116 : decode cX11_drift 116 = .ok (.if_icmp .lt 10, 3) := by decide +kernel
theorem dX11_drift_119 : decode cX11_drift 119 = .ok (.aload_n 0, 1) := by decide +kernel
theorem dX11_drift_120 : decode cX11_drift 120 = .ok (.getfield 38, 3) := by decide +kernel
theorem dX11_drift_123 : decode cX11_drift 123 = .ok (.iload_n 3, 1) := by decide +kernel
theorem dX11_drift_124 : decode cX11_drift 124 = .ok (.iconst 0, 1) := by decide +kernel
theorem dX11_drift_125 : decode cX11_drift 125 = .ok (.iastore, 1) := by decide +kernel
theorem dX11_drift_126 : decode cX11_drift 126 = .ok (.iinc 2 1, 3) := by decide +kernel
theorem dX11_drift_129 : decode cX11_drift 129 = .ok (.goto (-100), 3) := by decide +kernel
theorem dX11_drift_132 : decode cX11_drift 132 = .ok (.aload_n 0, 1) := by decide +kernel
theorem dX11_drift_133 : decode cX11_drift 133 = .ok (.getfield 38, 3) := by decide +kernel
theorem dX11_drift_136 : decode cX11_drift 136 = .ok (.bipush 30, 2) := by decide +kernel
theorem dX11_drift_138 : decode cX11_drift 138 = .ok (.iaload, 1) := by decide +kernel
theorem dX11_drift_139 : decode cX11_drift 139 = .ok (.ireturn, 1) := by decide +kernel
theorem dX11_undo_0 : decode cX11_undo 0 = .ok (.aload_n 0, 1) := by decide +kernel
theorem dX11_undo_1 : decode cX11_undo 1 = .ok (.getfield 157, 3) := by decide +kernel
theorem dX11_undo_4 : decode cX11_undo 4 = .ok (.ifCond .ne 6, 3) := by decide +kernel
theorem dX11_undo_7 : decode cX11_undo 7 = .ok (.ldc 224, 2) := by decide +kernel
theorem dX11_undo_9 : decode cX11_undo 9 = .ok (.ireturn, 1) := by decide +kernel
theorem dX11_undo_10 : decode cX11_undo 10 = .ok (.aload_n 0, 1) := by decide +kernel
theorem dX11_undo_11 : decode cX11_undo 11 = .ok (.dup, 1) := by decide +kernel
theorem dX11_undo_12 : decode cX11_undo 12 = .ok (.getfield 157, 3) := by decide +kernel
theorem dX11_undo_15 : decode cX11_undo 15 = .ok (.iconst 1, 1) := by decide +kernel
theorem dX11_undo_16 : decode cX11_undo 16 = .ok (.isub, 1) := by decide +kernel
theorem dX11_undo_17 : decode cX11_undo 17 = .ok (.putfield 157, 3) := by decide +kernel
theorem dX11_undo_20 : decode cX11_undo 20 = .ok (.iconst 0, 1) := by decide +kernel
theorem dX11_undo_21 : decode cX11_undo 21 = .ok (.istore_n 1, 1) := by decide +kernel
theorem dX11_undo_22 : decode cX11_undo 22 = .ok (.iload_n 1, 1) := by decide +kernel
theorem dX11_undo_23 : decode cX11_undo 23 = .ok (.bipush 31, 2) := by decide +kernel
theorem dX11_undo_25 : decode cX11_undo 25 = .ok (.if_icmp .ge 29, 3) := by decide +kernel
theorem dX11_undo_28 : decode cX11_undo 28 = .ok (.aload_n 0, 1) := by decide +kernel
theorem dX11_undo_29 : decode cX11_undo 29 = .ok (.getfield 38, 3) := by decide +kernel
theorem dX11_undo_32 : decode cX11_undo 32 = .ok (.iload_n 1, 1) := by decide +kernel
theorem dX11_undo_33 : decode cX11_undo 33 = .ok (.aload_n 0, 1) := by decide +kernel
theorem dX11_undo_34 : decode cX11_undo 34 = .ok (.getfield 41, 3) := by decide +kernel
theorem dX11_undo_37 : decode cX11_undo 37 = .ok (.bipush 31, 2) := by decide +kernel
theorem dX11_undo_39 : decode cX11_undo 39 = .ok (.aload_n 0, 1) := by decide +kernel
theorem dX11_undo_40 : decode cX11_undo 40 = .ok (.getfield 157, 3) := by decide +kernel
theorem dX11_undo_43 : decode cX11_undo 43 = .ok (.imul, 1) := by decide +kernel
theorem dX11_undo_44 : decode cX11_undo 44 = .ok (.iload_n 1, 1) := by decide +kernel
theorem dX11_undo_45 : decode cX11_undo 45 = .ok (.iadd, 1) := by decide +kernel
theorem dX11_undo_46 : decode cX11_undo 46 = .ok (.iaload, 1) := by decide +kernel
theorem dX11_undo_47 : decode cX11_undo 47 = .ok (.iastore, 1) := by decide +kernel
theorem dX11_undo_48 : decode cX11_undo 48 = .ok (.iinc 1 1, 3) := by decide +kernel
theorem dX11_undo_51 : decode cX11_undo 51 = .ok (.goto (-29), 3) := by decide +kernel
theorem dX11_undo_54 : decode cX11_undo 54 = .ok (.aload_n 0, 1) := by decide +kernel
theorem dX11_undo_55 : decode cX11_undo 55 = .ok (.getfield 157, 3) := by decide +kernel
theorem dX11_undo_58 : decode cX11_undo 58 = .ok (.ireturn, 1) := by decide +kernel
theorem dX11_measure_0 : decode cX11_measure 0 = .ok (.aload_n 0, 1) := by decide +kernel
theorem dX11_measure_1 : decode cX11_measure 1 = .ok (.iconst 0, 1) := by decide +kernel
theorem dX11_measure_2 : decode cX11_measure 2 = .ok (.putfield 249, 3) := by decide +kernel
theorem dX11_measure_5 : decode cX11_measure 5 = .ok (.iconst 0, 1) := by decide +kernel
theorem dX11_measure_6 : decode cX11_measure 6 = .ok (.istore_n 2, 1) := by decide +kernel
theorem dX11_measure_7 : decode cX11_measure 7 = .ok (.iload_n 2, 1) := by decide +kernel
theorem dX11_measure_8 : decode cX11_measure 8 = .ok (.bipush 120, 2) := by decide +kernel
theorem dX11_measure_10 : decode cX11_measure 10 = .ok (.if_icmp .ge 99, 3) := by decide +kernel
theorem dX11_measure_13 : decode cX11_measure 13 = .ok (.iconst 1, 1) := by decide +kernel
theorem dX11_measure_14 : decode cX11_measure 14 = .ok (.istore_n 3, 1) := by decide +kernel
theorem dX11_measure_15 : decode cX11_measure 15 = .ok (.iconst 0, 1) := by decide +kernel
theorem dX11_measure_16 : decode cX11_measure 16 = .ok (.istore 4, 2) := by decide +kernel
theorem dX11_measure_18 : decode cX11_measure 18 = .ok (.iload 4, 2) := by decide +kernel
theorem dX11_measure_20 : decode cX11_measure 20 = .ok (.aload_n 0, 1) := by decide +kernel
theorem dX11_measure_21 : decode cX11_measure 21 = .ok (.getfield 145, 3) := by decide +kernel
theorem dX11_measure_24 : decode cX11_measure 24 = .ok (.if_icmp .ge 54, 3) := by decide +kernel
theorem dX11_measure_27 : decode cX11_measure 27 = .ok (.iload_n 3, 1) := by decide +kernel
theorem dX11_measure_28 : decode cX11_measure 28 = .ok (.ifCond .eq 42, 3) := by decide +kernel
theorem dX11_measure_31 : decode cX11_measure 31 = .ok (.aload_n 0, 1) := by decide +kernel
theorem dX11_measure_32 : decode cX11_measure 32 = .ok (.iload 4, 2) := by decide +kernel
theorem dX11_measure_34 : decode cX11_measure 34 = .ok (.invokevirtual 189, 3) := by decide +kernel
theorem dX11_measure_37 : decode cX11_measure 37 = .ok (.iconst (-1), 1) := by decide +kernel
theorem dX11_measure_38 : decode cX11_measure 38 = .ok (.if_icmp .eq 28, 3) := by decide +kernel
theorem dX11_measure_41 : decode cX11_measure 41 = .ok (.aload_n 0, 1) := by decide +kernel
theorem dX11_measure_42 : decode cX11_measure 42 = .ok (.iload_n 2, 1) := by decide +kernel
theorem dX11_measure_43 : decode cX11_measure 43 = .ok (.iload 4, 2) := by decide +kernel
theorem dX11_measure_45 : decode cX11_measure 45 = .ok (.invokevirtual 252, 3) := by decide +kernel
theorem dX11_measure_48 : decode cX11_measure 48 = .ok (.aload_n 0, 1) := by decide +kernel
theorem dX11_measure_49 : decode cX11_measure 49 = .ok (.iload 4, 2) := by decide +kernel
theorem dX11_measure_51 : decode cX11_measure 51 = .ok (.invokevirtual 189, 3) := by decide +kernel
theorem dX11_measure_54 : decode cX11_measure 54 = .ok (.iload_n 1, 1) := by decide +kernel
theorem dX11_measure_55 : decode cX11_measure 55 = .ok (.if_icmp .ne 7, 3) := by decide +kernel
theorem dX11_measure_58 : decode cX11_measure 58 = .ok (.iconst 1, 1) := by decide +kernel
theorem dX11_measure_59 : decode cX11_measure 59 = .ok (.goto 4, 3) := by decide +kernel
theorem dX11_measure_62 : decode cX11_measure 62 = .ok (.iconst 0, 1) := by decide +kernel
theorem dX11_measure_63 : decode cX11_measure 63 = .ok (.if_icmp .ne 7, 3) := by decide +kernel
theorem dX11_measure_66 : decode cX11_measure 66 = .ok (.iconst 1, 1) := by decide +kernel
theorem dX11_measure_67 : decode cX11_measure 67 = .ok (.goto 4, 3) := by decide +kernel
theorem dX11_measure_70 : decode cX11_measure 70 = .ok (.iconst 0, 1) := by decide +kernel
theorem dX11_measure_71 : decode cX11_measure 71 = .ok (.istore_n 3, 1) := by decide +kernel
theorem dX11_measure_72 : decode cX11_measure 72 = .ok (.iinc 4 1, 3) := by decide +kernel
theorem dX11_measure_75 : decode cX11_measure 75 = .ok (.goto (-57), 3) := by decide +kernel
theorem dX11_measure_78 : decode cX11_measure 78 = .ok (.aload_n 0, 1) := by decide +kernel
theorem dX11_measure_79 : decode cX11_measure 79 = .ok (.getfield 54, 3) := by decide +kernel
theorem dX11_measure_82 : decode cX11_measure 82 = .ok (.iload_n 2, 1) := by decide +kernel
theorem dX11_measure_83 : decode cX11_measure 83 = .ok (.iload_n 3, 1) := by decide +kernel
theorem dX11_measure_84 : decode cX11_measure 84 = .ok (.bastore, 1) := by decide +kernel
theorem dX11_measure_85 : decode cX11_measure 85 = .ok (.aload_n 0, 1) := by decide +kernel
theorem dX11_measure_86 : decode cX11_measure 86 = .ok (.dup, 1) := by decide +kernel
theorem dX11_measure_87 : decode cX11_measure 87 = .ok (.getfield 249, 3) := by decide +kernel
theorem dX11_measure_90 : decode cX11_measure 90 = .ok (.iload_n 3, 1) := by decide +kernel
theorem dX11_measure_91 : decode cX11_measure 91 = .ok (.ifCond .eq 7, 3) := by decide +kernel
theorem dX11_measure_94 : decode cX11_measure 94 = .ok (.iconst 1, 1) := by decide +kernel
theorem dX11_measure_95 : decode cX11_measure 95 = .ok (.goto 4, 3) := by decide +kernel
theorem dX11_measure_98 : decode cX11_measure 98 = .ok (.iconst 0, 1) := by decide +kernel
theorem dX11_measure_99 : decode cX11_measure 99 = .ok (.iadd, 1) := by decide +kernel
theorem dX11_measure_100 : decode cX11_measure 100 = .ok (.putfield 249, 3) := by decide +kernel
theorem dX11_measure_103 : decode cX11_measure 103 = .ok (.iinc 2 1, 3) := by decide +kernel
theorem dX11_measure_106 : decode cX11_measure 106 = .ok (.goto (-99), 3) := by decide +kernel
theorem dX11_measure_109 : decode cX11_measure 109 = .ok (.return_, 1) := by decide +kernel
theorem dX11_fit_0 : decode cX11_fit 0 = .ok (.iload_n 1, 1) := by decide +kernel
theorem dX11_fit_1 : decode cX11_fit 1 = .ok (.invokestatic 221, 3) := by decide +kernel
theorem dX11_fit_4 : decode cX11_fit 4 = .ok (.ifCond .ne 6, 3) := by decide +kernel
theorem dX11_fit_7 : decode cX11_fit 7 = .ok (.ldc 77, 2) := by decide +kernel
theorem dX11_fit_9 : decode cX11_fit 9 = .ok (.ireturn, 1) := by decide +kernel
theorem dX11_fit_10 : decode cX11_fit 10 = .ok (.aload_n 0, 1) := by decide +kernel
theorem dX11_fit_11 : decode cX11_fit 11 = .ok (.iconst 1, 1) := by decide +kernel
theorem dX11_fit_12 : decode cX11_fit 12 = .ok (.iload_n 1, 1) := by decide +kernel
theorem dX11_fit_13 : decode cX11_fit 13 = .ok (.iadd, 1) := by decide +kernel
theorem dX11_fit_14 : decode cX11_fit 14 = .ok (.invokevirtual 183, 3) := by decide +kernel
theorem dX11_fit_17 : decode cX11_fit 17 = .ok (.ifCond .ne 6, 3) := by decide +kernel
theorem dX11_fit_20 : decode cX11_fit 20 = .ok (.ldc 224, 2) := by decide +kernel
theorem dX11_fit_22 : decode cX11_fit 22 = .ok (.ireturn, 1) := by decide +kernel
theorem dX11_fit_23 : decode cX11_fit 23 = .ok (.aload_n 0, 1) := by decide +kernel
theorem dX11_fit_24 : decode cX11_fit 24 = .ok (.iload_n 1, 1) := by decide +kernel
theorem dX11_fit_25 : decode cX11_fit 25 = .ok (.invokevirtual 255, 3) := by decide +kernel
theorem dX11_fit_28 : decode cX11_fit 28 = .ok (.iconst 0, 1) := by decide +kernel
theorem dX11_fit_29 : decode cX11_fit 29 = .ok (.istore_n 3, 1) := by decide +kernel
theorem dX11_fit_30 : decode cX11_fit 30 = .ok (.iconst 0, 1) := by decide +kernel
theorem dX11_fit_31 : decode cX11_fit 31 = .ok (.istore 4, 2) := by decide +kernel
theorem dX11_fit_33 : decode cX11_fit 33 = .ok (.iload 4, 2) := by decide +kernel
theorem dX11_fit_35 : decode cX11_fit 35 = .ok (.bipush 120, 2) := by decide +kernel
theorem dX11_fit_37 : decode cX11_fit 37 = .ok (.if_icmp .ge 30, 3) := by decide +kernel
theorem dX11_fit_40 : decode cX11_fit 40 = .ok (.aload_n 0, 1) := by decide +kernel
theorem dX11_fit_41 : decode cX11_fit 41 = .ok (.getfield 54, 3) := by decide +kernel
theorem dX11_fit_44 : decode cX11_fit 44 = .ok (.iload 4, 2) := by decide +kernel
theorem dX11_fit_46 : decode cX11_fit 46 = .ok (.baload, 1) := by decide +kernel
theorem dX11_fit_47 : decode cX11_fit 47 = .ok (.ifCond .eq 14, 3) := by decide +kernel
theorem dX11_fit_50 : decode cX11_fit 50 = .ok (.iload_n 3, 1) := by decide +kernel
theorem dX11_fit_51 : decode cX11_fit 51 = .ok (.iload_n 2, 1) := by decide +kernel
theorem dX11_fit_52 : decode cX11_fit 52 = .ok (.if_icmp .ne 6, 3) := by decide +kernel
theorem dX11_fit_55 : decode cX11_fit 55 = .ok (.iload 4, 2) := by decide +kernel
theorem dX11_fit_57 : decode cX11_fit 57 = .ok (.ireturn, 1) := by decide +kernel
theorem dX11_fit_58 : decode cX11_fit 58 = .ok (.iinc 3 1, 3) := by decide +kernel
theorem dX11_fit_61 : decode cX11_fit 61 = .ok (.iinc 4 1, 3) := by decide +kernel
theorem dX11_fit_64 : decode cX11_fit 64 = .ok (.goto (-31), 3) := by decide +kernel
theorem dX11_fit_67 : decode cX11_fit 67 = .ok (.iload_n 2, 1) := by decide +kernel
theorem dX11_fit_68 : decode cX11_fit 68 = .ok (.iconst (-1), 1) := by decide +kernel
theorem dX11_fit_69 : decode cX11_fit 69 = .ok (.if_icmp .ne 7, 3) := by decide +kernel
theorem dX11_fit_72 : decode cX11_fit 72 = .ok (.iload_n 3, 1) := by decide +kernel
theorem dX11_fit_73 : decode cX11_fit 73 = .ok (.goto 4, 3) := by decide +kernel
theorem dX11_fit_76 : decode cX11_fit 76 = .ok (.iconst (-1), 1) := by decide +kernel
theorem dX11_fit_77 : decode cX11_fit 77 = .ok (.ireturn, 1) := by decide +kernel
theorem dX11_tells_0 : decode cX11_tells 0 = .ok (.iload_n 1, 1) := by decide +kernel
theorem dX11_tells_1 : decode cX11_tells 1 = .ok (.invokestatic 221, 3) := by decide +kernel
theorem dX11_tells_4 : decode cX11_tells 4 = .ok (.ifCond .ne 6, 3) := by decide +kernel
theorem dX11_tells_7 : decode cX11_tells 7 = .ok (.ldc 77, 2) := by decide +kernel
theorem dX11_tells_9 : decode cX11_tells 9 = .ok (.ireturn, 1) := by decide +kernel
theorem dX11_tells_10 : decode cX11_tells 10 = .ok (.aload_n 0, 1) := by decide +kernel
theorem dX11_tells_11 : decode cX11_tells 11 = .ok (.iconst 1, 1) := by decide +kernel
theorem dX11_tells_12 : decode cX11_tells 12 = .ok (.iload_n 1, 1) := by decide +kernel
theorem dX11_tells_13 : decode cX11_tells 13 = .ok (.iadd, 1) := by decide +kernel
theorem dX11_tells_14 : decode cX11_tells 14 = .ok (.invokevirtual 183, 3) := by decide +kernel
theorem dX11_tells_17 : decode cX11_tells 17 = .ok (.ifCond .ne 6, 3) := by decide +kernel
theorem dX11_tells_20 : decode cX11_tells 20 = .ok (.ldc 224, 2) := by decide +kernel
theorem dX11_tells_22 : decode cX11_tells 22 = .ok (.ireturn, 1) := by decide +kernel
theorem dX11_tells_23 : decode cX11_tells 23 = .ok (.aload_n 0, 1) := by decide +kernel
theorem dX11_tells_24 : decode cX11_tells 24 = .ok (.iload_n 1, 1) := by decide +kernel
theorem dX11_tells_25 : decode cX11_tells 25 = .ok (.invokevirtual 255, 3) := by decide +kernel
theorem dX11_tells_28 : decode cX11_tells 28 = .ok (.iconst (-1), 1) := by decide +kernel
theorem dX11_tells_29 : decode cX11_tells 29 = .ok (.istore_n 2, 1) := by decide +kernel
theorem dX11_tells_30 : decode cX11_tells 30 = .ok (.aload_n 0, 1) := by decide +kernel
theorem dX11_tells_31 : decode cX11_tells 31 = .ok (.getfield 249, 3) := by decide +kernel
theorem dX11_tells_34 : decode cX11_tells 34 = .ok (.istore_n 3, 1) := by decide +kernel
theorem dX11_tells_35 : decode cX11_tells 35 = .ok (.iconst 0, 1) := by decide +kernel
theorem dX11_tells_36 : decode cX11_tells 36 = .ok (.istore 4, 2) := by decide +kernel
theorem dX11_tells_38 : decode cX11_tells 38 = .ok (.iload 4, 2) := by decide +kernel
theorem dX11_tells_40 : decode cX11_tells 40 = .ok (.aload_n 0, 1) := by decide +kernel
theorem dX11_tells_41 : decode cX11_tells 41 = .ok (.getfield 145, 3) := by decide +kernel
theorem dX11_tells_44 : decode cX11_tells 44 = .ok (.if_icmp .ge 107, 3) := by decide +kernel
theorem dX11_tells_47 : decode cX11_tells 47 = .ok (.iconst 0, 1) := by decide +kernel
theorem dX11_tells_48 : decode cX11_tells 48 = .ok (.istore 5, 2) := by decide +kernel
theorem dX11_tells_50 : decode cX11_tells 50 = .ok (.iconst 0, 1) := by decide +kernel
theorem dX11_tells_51 : decode cX11_tells 51 = .ok (.istore 6, 2) := by decide +kernel
theorem dX11_tells_53 : decode cX11_tells 53 = .ok (.iload 6, 2) := by decide +kernel
theorem dX11_tells_55 : decode cX11_tells 55 = .ok (.bipush 120, 2) := by decide +kernel
theorem dX11_tells_57 : decode cX11_tells 57 = .ok (.if_icmp .ge 40, 3) := by decide +kernel
theorem dX11_tells_60 : decode cX11_tells 60 = .ok (.iload 5, 2) := by decide +kernel
theorem dX11_tells_62 : decode cX11_tells 62 = .ok (.aload_n 0, 1) := by decide +kernel
theorem dX11_tells_63 : decode cX11_tells 63 = .ok (.getfield 54, 3) := by decide +kernel
theorem dX11_tells_66 : decode cX11_tells 66 = .ok (.iload 6, 2) := by decide +kernel
theorem dX11_tells_68 : decode cX11_tells 68 = .ok (.baload, 1) := by decide +kernel
theorem dX11_tells_69 : decode cX11_tells 69 = .ok (.ifCond .eq 18, 3) := by decide +kernel
theorem dX11_tells_72 : decode cX11_tells 72 = .ok (.aload_n 0, 1) := by decide +kernel
theorem dX11_tells_73 : decode cX11_tells 73 = .ok (.iload 6, 2) := by decide +kernel
theorem dX11_tells_75 : decode cX11_tells 75 = .ok (.iload 4, 2) := by decide +kernel
theorem dX11_tells_77 : decode cX11_tells 77 = .ok (.invokevirtual 252, 3) := by decide +kernel
theorem dX11_tells_80 : decode cX11_tells 80 = .ok (.ifCond .eq 7, 3) := by decide +kernel
theorem dX11_tells_83 : decode cX11_tells 83 = .ok (.iconst 1, 1) := by decide +kernel
theorem dX11_tells_84 : decode cX11_tells 84 = .ok (.goto 4, 3) := by decide +kernel
theorem dX11_tells_87 : decode cX11_tells 87 = .ok (.iconst 0, 1) := by decide +kernel
theorem dX11_tells_88 : decode cX11_tells 88 = .ok (.iadd, 1) := by decide +kernel
theorem dX11_tells_89 : decode cX11_tells 89 = .ok (.istore 5, 2) := by decide +kernel
theorem dX11_tells_91 : decode cX11_tells 91 = .ok (.iinc 6 1, 3) := by decide +kernel
theorem dX11_tells_94 : decode cX11_tells 94 = .ok (.goto (-41), 3) := by decide +kernel
theorem dX11_tells_97 : decode cX11_tells 97 = .ok (.iload 5, 2) := by decide +kernel
theorem dX11_tells_99 : decode cX11_tells 99 = .ok (.aload_n 0, 1) := by decide +kernel
theorem dX11_tells_100 : decode cX11_tells 100 = .ok (.getfield 249, 3) := by decide +kernel
theorem dX11_tells_103 : decode cX11_tells 103 = .ok (.iload 5, 2) := by decide +kernel
theorem dX11_tells_105 : decode cX11_tells 105 = .ok (.isub, 1) := by decide +kernel
theorem dX11_tells_106 : decode cX11_tells 106 = .ok (.if_icmp .le 8, 3) := by decide +kernel
theorem dX11_tells_109 : decode cX11_tells 109 = .ok (.iload 5, 2) := by decide +kernel
theorem dX11_tells_111 : decode cX11_tells 111 = .ok (.goto 10, 3) := by decide +kernel
theorem dX11_tells_114 : decode cX11_tells 114 = .ok (.aload_n 0, 1) := by decide +kernel
theorem dX11_tells_115 : decode cX11_tells 115 = .ok (.getfield 249, 3) := by decide +kernel
theorem dX11_tells_118 : decode cX11_tells 118 = .ok (.iload 5, 2) := by decide +kernel
theorem dX11_tells_120 : decode cX11_tells 120 = .ok (.isub, 1) := by decide +kernel
theorem dX11_tells_121 : decode cX11_tells 121 = .ok (.istore 6, 2) := by decide +kernel
theorem dX11_tells_123 : decode cX11_tells 123 = .ok (.aload_n 0, 1) := by decide +kernel
theorem dX11_tells_124 : decode cX11_tells 124 = .ok (.getfield 38, 3) := by decide +kernel
theorem dX11_tells_127 : decode cX11_tells 127 = .ok (.iload 4, 2) := by decide +kernel
theorem dX11_tells_129 : decode cX11_tells 129 = .ok (.iaload, 1) := by decide +kernel
theorem dX11_tells_130 : decode cX11_tells 130 = .ok (.ifCond .ne 15, 3) := by decide +kernel
theorem dX11_tells_133 : decode cX11_tells 133 = .ok (.iload 6, 2) := by decide +kernel
theorem dX11_tells_135 : decode cX11_tells 135 = .ok (.iload_n 3, 1) := by decide +kernel
theorem dX11_tells_136 : decode cX11_tells 136 = .ok (.if_icmp .ge 9, 3) := by decide +kernel
theorem dX11_tells_139 : decode cX11_tells 139 = .ok (.iload 4, 2) := by decide +kernel
theorem dX11_tells_141 : decode cX11_tells 141 = .ok (.istore_n 2, 1) := by decide +kernel
theorem dX11_tells_142 : decode cX11_tells 142 = .ok (.iload 6, 2) := by decide +kernel
theorem dX11_tells_144 : decode cX11_tells 144 = .ok (.istore_n 3, 1) := by decide +kernel
theorem dX11_tells_145 : decode cX11_tells 145 = .ok (.iinc 4 1, 3) := by decide +kernel
theorem dX11_tells_148 : decode cX11_tells 148 = .ok (.goto (-110), 3) := by decide +kernel
theorem dX11_tells_151 : decode cX11_tells 151 = .ok (.iload_n 2, 1) := by decide +kernel
theorem dX11_tells_152 : decode cX11_tells 152 = .ok (.ireturn, 1) := by decide +kernel
theorem dX11_apart_0 : decode cX11_apart 0 = .ok (.iconst 0, 1) := by decide +kernel
theorem dX11_apart_1 : decode cX11_apart 1 = .ok (.istore_n 3, 1) := by decide +kernel
theorem dX11_apart_2 : decode cX11_apart 2 = .ok (.iconst 0, 1) := by decide +kernel
theorem dX11_apart_3 : decode cX11_apart 3 = .ok (.istore 4, 2) := by decide +kernel
theorem dX11_apart_5 : decode cX11_apart 5 = .ok (.iload 4, 2) := by decide +kernel
theorem dX11_apart_7 : decode cX11_apart 7 = .ok (.aload_n 0, 1) := by decide +kernel
theorem dX11_apart_8 : decode cX11_apart 8 = .ok (.getfield 145, 3) := by decide +kernel
theorem dX11_apart_11 : decode cX11_apart 11 = .ok (.if_icmp .ge 37, 3) := by decide +kernel
theorem dX11_apart_14 : decode cX11_apart 14 = .ok (.iload_n 3, 1) := by decide +kernel
theorem dX11_apart_15 : decode cX11_apart 15 = .ok (.aload_n 0, 1) := by decide +kernel
theorem dX11_apart_16 : decode cX11_apart 16 = .ok (.iload_n 1, 1) := by decide +kernel
theorem dX11_apart_17 : decode cX11_apart 17 = .ok (.iload 4, 2) := by decide +kernel
theorem dX11_apart_19 : decode cX11_apart 19 = .ok (.invokevirtual 252, 3) := by decide +kernel
theorem dX11_apart_22 : decode cX11_apart 22 = .ok (.aload_n 0, 1) := by decide +kernel
theorem dX11_apart_23 : decode cX11_apart 23 = .ok (.iload_n 2, 1) := by decide +kernel
theorem dX11_apart_24 : decode cX11_apart 24 = .ok (.iload 4, 2) := by decide +kernel
theorem dX11_apart_26 : decode cX11_apart 26 = .ok (.invokevirtual 252, 3) := by decide +kernel
theorem dX11_apart_29 : decode cX11_apart 29 = .ok (.if_icmp .eq 10, 3) := by decide +kernel
theorem dX11_apart_32 : decode cX11_apart 32 = .ok (.iconst 1, 1) := by decide +kernel
theorem dX11_apart_33 : decode cX11_apart 33 = .ok (.iload 4, 2) := by decide +kernel
theorem dX11_apart_35 : decode cX11_apart 35 = .ok (.ishl, 1) := by decide +kernel
theorem dX11_apart_36 : decode cX11_apart 36 = .ok (.goto 4, 3) := by decide +kernel
theorem dX11_apart_39 : decode cX11_apart 39 = .ok (.iconst 0, 1) := by decide +kernel
theorem dX11_apart_40 : decode cX11_apart 40 = .ok (.ior, 1) := by decide +kernel
theorem dX11_apart_41 : decode cX11_apart 41 = .ok (.istore_n 3, 1) := by decide +kernel
theorem dX11_apart_42 : decode cX11_apart 42 = .ok (.iinc 4 1, 3) := by decide +kernel
theorem dX11_apart_45 : decode cX11_apart 45 = .ok (.goto (-40), 3) := by decide +kernel
theorem dX11_apart_48 : decode cX11_apart 48 = .ok (.iload_n 3, 1) := by decide +kernel
theorem dX11_apart_49 : decode cX11_apart 49 = .ok (.ireturn, 1) := by decide +kernel
theorem dX11_teach_0 : decode cX11_teach 0 = .ok (.iload_n 1, 1) := by decide +kernel
theorem dX11_teach_1 : decode cX11_teach 1 = .ok (.iconst 0, 1) := by decide +kernel
theorem dX11_teach_2 : decode cX11_teach 2 = .ok (.bipush 119, 2) := by decide +kernel
theorem dX11_teach_4 : decode cX11_teach 4 = .ok (.invokestatic 73, 3) := by decide +kernel
theorem dX11_teach_7 : decode cX11_teach 7 = .ok (.ifCond .ne 6, 3) := by decide +kernel
theorem dX11_teach_10 : decode cX11_teach 10 = .ok (.ldc 77, 2) := by decide +kernel
theorem dX11_teach_12 : decode cX11_teach 12 = .ok (.ireturn, 1) := by decide +kernel
theorem dX11_teach_13 : decode cX11_teach 13 = .ok (.iconst 0, 1) := by decide +kernel
theorem dX11_teach_14 : decode cX11_teach 14 = .ok (.istore_n 2, 1) := by decide +kernel
theorem dX11_teach_15 : decode cX11_teach 15 = .ok (.iload_n 2, 1) := by decide +kernel
theorem dX11_teach_16 : decode cX11_teach 16 = .ok (.bipush 120, 2) := by decide +kernel
theorem dX11_teach_18 : decode cX11_teach 18 = .ok (.if_icmp .ge 21, 3) := by decide +kernel
theorem dX11_teach_21 : decode cX11_teach 21 = .ok (.aload_n 0, 1) := by decide +kernel
theorem dX11_teach_22 : decode cX11_teach 22 = .ok (.getfield 57, 3) := by decide +kernel
theorem dX11_teach_25 : decode cX11_teach 25 = .ok (.iload_n 2, 1) := by decide +kernel
theorem dX11_teach_26 : decode cX11_teach 26 = .ok (.aload_n 0, 1) := by decide +kernel
theorem dX11_teach_27 : decode cX11_teach 27 = .ok (.iload_n 1, 1) := by decide +kernel
theorem dX11_teach_28 : decode cX11_teach 28 = .ok (.iload_n 2, 1) := by decide +kernel
theorem dX11_teach_29 : decode cX11_teach 29 = .ok (.invokevirtual 258, 3) := by decide +kernel
theorem dX11_teach_32 : decode cX11_teach 32 = .ok (.iastore, 1) := by decide +kernel
theorem dX11_teach_33 : decode cX11_teach 33 = .ok (.iinc 2 1, 3) := by decide +kernel
theorem dX11_teach_36 : decode cX11_teach 36 = .ok (.goto (-21), 3) := by decide +kernel
theorem dX11_teach_39 : decode cX11_teach 39 = .ok (.iconst 1, 1) := by decide +kernel
theorem dX11_teach_40 : decode cX11_teach 40 = .ok (.aload_n 0, 1) := by decide +kernel
theorem dX11_teach_41 : decode cX11_teach 41 = .ok (.getfield 145, 3) := by decide +kernel
theorem dX11_teach_44 : decode cX11_teach 44 = .ok (.ishl, 1) := by decide +kernel
theorem dX11_teach_45 : decode cX11_teach 45 = .ok (.iconst 1, 1) := by decide +kernel
theorem dX11_teach_46 : decode cX11_teach 46 = .ok (.isub, 1) := by decide +kernel
theorem dX11_teach_47 : decode cX11_teach 47 = .ok (.istore_n 2, 1) := by decide +kernel
theorem dX11_teach_48 : decode cX11_teach 48 = .ok (.iload_n 2, 1) := by decide +kernel
theorem dX11_teach_49 : decode cX11_teach 49 = .ok (.istore_n 3, 1) := by decide +kernel
theorem dX11_teach_50 : decode cX11_teach 50 = .ok (.iload_n 3, 1) := by decide +kernel
theorem dX11_teach_51 : decode cX11_teach 51 = .ok (.ifCond .lt 84, 3) := by decide +kernel
theorem dX11_teach_54 : decode cX11_teach 54 = .ok (.iload_n 3, 1) := by decide +kernel
theorem dX11_teach_55 : decode cX11_teach 55 = .ok (.invokestatic 233, 3) := by decide +kernel
theorem dX11_teach_58 : decode cX11_teach 58 = .ok (.iload_n 2, 1) := by decide +kernel
theorem dX11_teach_59 : decode cX11_teach 59 = .ok (.invokestatic 233, 3) := by decide +kernel
theorem dX11_teach_62 : decode cX11_teach 62 = .ok (.if_icmp .gt 67, 3) := by decide +kernel
theorem dX11_teach_65 : decode cX11_teach 65 = .ok (.iconst 1, 1) := by decide +kernel
theorem dX11_teach_66 : decode cX11_teach 66 = .ok (.istore 4, 2) := by decide +kernel
theorem dX11_teach_68 : decode cX11_teach 68 = .ok (.iconst 0, 1) := by decide +kernel
theorem dX11_teach_69 : decode cX11_teach 69 = .ok (.istore 5, 2) := by decide +kernel
theorem dX11_teach_71 : decode cX11_teach 71 = .ok (.iload 5, 2) := by decide +kernel
theorem dX11_teach_73 : decode cX11_teach 73 = .ok (.bipush 120, 2) := by decide +kernel
theorem dX11_teach_75 : decode cX11_teach 75 = .ok (.if_icmp .ge 43, 3) := by decide +kernel
theorem dX11_teach_78 : decode cX11_teach 78 = .ok (.iload 4, 2) := by decide +kernel
theorem dX11_teach_80 : decode cX11_teach 80 = .ok (.ifCond .eq 38, 3) := by decide +kernel
theorem dX11_teach_83 : decode cX11_teach 83 = .ok (.aload_n 0, 1) := by decide +kernel
theorem dX11_teach_84 : decode cX11_teach 84 = .ok (.getfield 57, 3) := by decide +kernel
theorem dX11_teach_87 : decode cX11_teach 87 = .ok (.iload 5, 2) := by decide +kernel
theorem dX11_teach_89 : decode cX11_teach 89 = .ok (.iaload, 1) := by decide +kernel
theorem dX11_teach_90 : decode cX11_teach 90 = .ok (.ifCond .eq 15, 3) := by decide +kernel
theorem dX11_teach_93 : decode cX11_teach 93 = .ok (.aload_n 0, 1) := by decide +kernel
theorem dX11_teach_94 : decode cX11_teach 94 = .ok (.getfield 57, 3) := by decide +kernel
theorem dX11_teach_97 : decode cX11_teach 97 = .ok (.iload 5, 2) := by decide +kernel
theorem dX11_teach_99 : decode cX11_teach 99 = .ok (.iaload, 1) := by decide +kernel
theorem dX11_teach_100 : decode cX11_teach 100 = .ok (.iload_n 3, 1) := by decide +kernel
theorem dX11_teach_101 : decode cX11_teach 101 = .ok (.iand, 1) := by decide +kernel
theorem dX11_teach_102 : decode cX11_teach 102 = .ok (.ifCond .eq 7, 3) := by decide +kernel
theorem dX11_teach_105 : decode cX11_teach 105 = .ok (.iconst 1, 1) := by decide +kernel
theorem dX11_teach_106 : decode cX11_teach 106 = .ok (.goto 4, 3) := by decide +kernel
theorem dX11_teach_109 : decode cX11_teach 109 = .ok (.iconst 0, 1) := by decide +kernel
theorem dX11_teach_110 : decode cX11_teach 110 = .ok (.istore 4, 2) := by decide +kernel
theorem dX11_teach_112 : decode cX11_teach 112 = .ok (.iinc 5 1, 3) := by decide +kernel
theorem dX11_teach_115 : decode cX11_teach 115 = .ok (.goto (-44), 3) := by decide +kernel
theorem dX11_teach_118 : decode cX11_teach 118 = .ok (.iload 4, 2) := by decide +kernel
theorem dX11_teach_120 : decode cX11_teach 120 = .ok (.ifCond .eq 7, 3) := by decide +kernel
theorem dX11_teach_123 : decode cX11_teach 123 = .ok (.iload_n 3, 1) := by decide +kernel
theorem dX11_teach_124 : decode cX11_teach 124 = .ok (.goto 4, 3) := by decide +kernel
theorem dX11_teach_127 : decode cX11_teach 127 = .ok (.iload_n 2, 1) := by decide +kernel
theorem dX11_teach_128 : decode cX11_teach 128 = .ok (.istore_n 2, 1) := by decide +kernel
theorem dX11_teach_129 : decode cX11_teach 129 = .ok (.iinc 3 (-1), 3) := by decide +kernel
theorem dX11_teach_132 : decode cX11_teach 132 = .ok (.goto (-82), 3) := by decide +kernel
theorem dX11_teach_135 : decode cX11_teach 135 = .ok (.iload_n 2, 1) := by decide +kernel
theorem dX11_teach_136 : decode cX11_teach 136 = .ok (.ireturn, 1) := by decide +kernel
theorem dX11_canSew_0 : decode cX11_canSew 0 = .ok (.aload_n 0, 1) := by decide +kernel
theorem dX11_canSew_1 : decode cX11_canSew 1 = .ok (.getfield 38, 3) := by decide +kernel
theorem dX11_canSew_4 : decode cX11_canSew 4 = .ok (.iload_n 1, 1) := by decide +kernel
theorem dX11_canSew_5 : decode cX11_canSew 5 = .ok (.iaload, 1) := by decide +kernel
theorem dX11_canSew_6 : decode cX11_canSew 6 = .ok (.ifCond .ne 29, 3) := by decide +kernel
theorem dX11_canSew_9 : decode cX11_canSew 9 = .ok (.iload_n 3, 1) := by decide +kernel
theorem dX11_canSew_10 : decode cX11_canSew 10 = .ok (.iload_n 1, 1) := by decide +kernel
theorem dX11_canSew_11 : decode cX11_canSew 11 = .ok (.invokestatic 177, 3) := by decide +kernel
theorem dX11_canSew_14 : decode cX11_canSew 14 = .ok (.ifCond .ne 21, 3) := by decide +kernel
theorem dX11_canSew_17 : decode cX11_canSew 17 = .ok (.aload_n 0, 1) := by decide +kernel
theorem dX11_canSew_18 : decode cX11_canSew 18 = .ok (.iload_n 1, 1) := by decide +kernel
theorem dX11_canSew_19 : decode cX11_canSew 19 = .ok (.invokevirtual 180, 3) := by decide +kernel
theorem dX11_canSew_22 : decode cX11_canSew 22 = .ok (.aload_n 0, 1) := by decide +kernel
theorem dX11_canSew_23 : decode cX11_canSew 23 = .ok (.getfield 23, 3) := by decide +kernel
theorem dX11_canSew_26 : decode cX11_canSew 26 = .ok (.iload_n 2, 1) := by decide +kernel
theorem dX11_canSew_27 : decode cX11_canSew 27 = .ok (.iaload, 1) := by decide +kernel
theorem dX11_canSew_28 : decode cX11_canSew 28 = .ok (.if_icmp .lt 7, 3) := by decide +kernel
theorem dX11_canSew_31 : decode cX11_canSew 31 = .ok (.iconst 1, 1) := by decide +kernel
theorem dX11_canSew_32 : decode cX11_canSew 32 = .ok (.goto 4, 3) := by decide +kernel
theorem dX11_canSew_35 : decode cX11_canSew 35 = .ok (.iconst 0, 1) := by decide +kernel
theorem dX11_canSew_36 : decode cX11_canSew 36 = .ok (.ireturn, 1) := by decide +kernel
theorem dX11_worthBy_0 : decode cX11_worthBy 0 = .ok (.sipush 10000, 3) := by decide +kernel
theorem dX11_worthBy_3 : decode cX11_worthBy 3 = .ok (.aload_n 0, 1) := by decide +kernel
theorem dX11_worthBy_4 : decode cX11_worthBy 4 = .ok (.iload_n 1, 1) := by decide +kernel
theorem dX11_worthBy_5 : decode cX11_worthBy 5 = .ok (.invokevirtual 180, 3) := by decide +kernel
theorem dX11_worthBy_8 : decode cX11_worthBy 8 = .ok (.isub, 1) := by decide +kernel
theorem dX11_worthBy_9 : decode cX11_worthBy 9 = .ok (.aload_n 0, 1) := by decide +kernel
theorem dX11_worthBy_10 : decode cX11_worthBy 10 = .ok (.getfield 60, 3) := by decide +kernel
theorem dX11_worthBy_13 : decode cX11_worthBy 13 = .ok (.sipush 4096, 3) := by decide +kernel
theorem dX11_worthBy_16 : decode cX11_worthBy 16 = .ok (.iload_n 2, 1) := by decide +kernel
theorem dX11_worthBy_17 : decode cX11_worthBy 17 = .ok (.iconst 1, 1) := by decide +kernel
theorem dX11_worthBy_18 : decode cX11_worthBy 18 = .ok (.iadd, 1) := by decide +kernel
theorem dX11_worthBy_19 : decode cX11_worthBy 19 = .ok (.imul, 1) := by decide +kernel
theorem dX11_worthBy_20 : decode cX11_worthBy 20 = .ok (.iload_n 3, 1) := by decide +kernel
theorem dX11_worthBy_21 : decode cX11_worthBy 21 = .ok (.iconst 1, 1) := by decide +kernel
theorem dX11_worthBy_22 : decode cX11_worthBy 22 = .ok (.iload_n 1, 1) := by decide +kernel
theorem dX11_worthBy_23 : decode cX11_worthBy 23 = .ok (.ishl, 1) := by decide +kernel
theorem dX11_worthBy_24 : decode cX11_worthBy 24 = .ok (.ior, 1) := by decide +kernel
theorem dX11_worthBy_25 : decode cX11_worthBy 25 = .ok (.iadd, 1) := by decide +kernel
theorem dX11_worthBy_26 : decode cX11_worthBy 26 = .ok (.iaload, 1) := by decide +kernel
theorem dX11_worthBy_27 : decode cX11_worthBy 27 = .ok (.iadd, 1) := by decide +kernel
theorem dX11_worthBy_28 : decode cX11_worthBy 28 = .ok (.ireturn, 1) := by decide +kernel
theorem dX11_matchAll_0 : decode cX11_matchAll 0 = .ok (.iconst 0, 1) := by decide +kernel
theorem dX11_matchAll_1 : decode cX11_matchAll 1 = .ok (.istore_n 1, 1) := by decide +kernel
theorem dX11_matchAll_2 : decode cX11_matchAll 2 = .ok (.iload_n 1, 1) := by decide +kernel
theorem dX11_matchAll_3 : decode cX11_matchAll 3 = .ok (.iconst 1, 1) := by decide +kernel
theorem dX11_matchAll_4 : decode cX11_matchAll 4 = .ok (.aload_n 0, 1) := by decide +kernel
theorem dX11_matchAll_5 : decode cX11_matchAll 5 = .ok (.getfield 145, 3) := by decide +kernel
theorem dX11_matchAll_8 : decode cX11_matchAll 8 = .ok (.ishl, 1) := by decide +kernel
theorem dX11_matchAll_9 : decode cX11_matchAll 9 = .ok (.if_icmp .ge 25, 3) := by decide +kernel
theorem dX11_matchAll_12 : decode cX11_matchAll 12 = .ok (.aload_n 0, 1) := by decide +kernel
theorem dX11_matchAll_13 : decode cX11_matchAll 13 = .ok (.getfield 60, 3) := by decide +kernel
theorem dX11_matchAll_16 : decode cX11_matchAll 16 = .ok (.sipush 4096, 3) := by decide +kernel
theorem dX11_matchAll_19 : decode cX11_matchAll 19 = .ok (.aload_n 0, 1) := by decide +kernel
theorem dX11_matchAll_20 : decode cX11_matchAll 20 = .ok (.getfield 154, 3) := by decide +kernel
theorem dX11_matchAll_23 : decode cX11_matchAll 23 = .ok (.imul, 1) := by decide +kernel
theorem dX11_matchAll_24 : decode cX11_matchAll 24 = .ok (.iload_n 1, 1) := by decide +kernel
theorem dX11_matchAll_25 : decode cX11_matchAll 25 = .ok (.iadd, 1) := by decide +kernel
theorem dX11_matchAll_26 : decode cX11_matchAll 26 = .ok (.iconst 0, 1) := by decide +kernel
theorem dX11_matchAll_27 : decode cX11_matchAll 27 = .ok (.iastore, 1) := by decide +kernel
theorem dX11_matchAll_28 : decode cX11_matchAll 28 = .ok (.iinc 1 1, 3) := by decide +kernel
theorem dX11_matchAll_31 : decode cX11_matchAll 31 = .ok (.goto (-29), 3) := by decide +kernel
theorem dX11_matchAll_34 : decode cX11_matchAll 34 = .ok (.aload_n 0, 1) := by decide +kernel
theorem dX11_matchAll_35 : decode cX11_matchAll 35 = .ok (.getfield 154, 3) := by decide +kernel
theorem dX11_matchAll_38 : decode cX11_matchAll 38 = .ok (.iconst 1, 1) := by decide +kernel
theorem dX11_matchAll_39 : decode cX11_matchAll 39 = .ok (.isub, 1) := by decide +kernel
theorem dX11_matchAll_40 : decode cX11_matchAll 40 = .ok (.istore_n 1, 1) := by decide +kernel
theorem dX11_matchAll_41 : decode cX11_matchAll 41 = .ok (.iload_n 1, 1) := by decide +kernel
theorem dX11_matchAll_42 : decode cX11_matchAll 42 = .ok (.ifCond .lt 120, 3) := by decide +kernel
theorem dX11_matchAll_45 : decode cX11_matchAll 45 = .ok (.iconst 0, 1) := by decide +kernel
theorem dX11_matchAll_46 : decode cX11_matchAll 46 = .ok (.istore_n 2, 1) := by decide +kernel
theorem dX11_matchAll_47 : decode cX11_matchAll 47 = .ok (.iload_n 2, 1) := by decide +kernel
theorem dX11_matchAll_48 : decode cX11_matchAll 48 = .ok (.iconst 1, 1) := by decide +kernel
theorem dX11_matchAll_49 : decode cX11_matchAll 49 = .ok (.aload_n 0, 1) := by decide +kernel
theorem dX11_matchAll_50 : decode cX11_matchAll 50 = .ok (.getfield 145, 3) := by decide +kernel
theorem dX11_matchAll_53 : decode cX11_matchAll 53 = .ok (.ishl, 1) := by decide +kernel
theorem dX11_matchAll_54 : decode cX11_matchAll 54 = .ok (.if_icmp .ge 102, 3) := by decide +kernel
theorem dX11_matchAll_57 : decode cX11_matchAll 57 = .ok (.aload_n 0, 1) := by decide +kernel
theorem dX11_matchAll_58 : decode cX11_matchAll 58 = .ok (.getfield 60, 3) := by decide +kernel
theorem dX11_matchAll_61 : decode cX11_matchAll 61 = .ok (.sipush 4096, 3) := by decide +kernel
theorem dX11_matchAll_64 : decode cX11_matchAll 64 = .ok (.iload_n 1, 1) := by decide +kernel
theorem dX11_matchAll_65 : decode cX11_matchAll 65 = .ok (.iconst 1, 1) := by decide +kernel
theorem dX11_matchAll_66 : decode cX11_matchAll 66 = .ok (.iadd, 1) := by decide +kernel
theorem dX11_matchAll_67 : decode cX11_matchAll 67 = .ok (.imul, 1) := by decide +kernel
theorem dX11_matchAll_68 : decode cX11_matchAll 68 = .ok (.iload_n 2, 1) := by decide +kernel
theorem dX11_matchAll_69 : decode cX11_matchAll 69 = .ok (.iadd, 1) := by decide +kernel
theorem dX11_matchAll_70 : decode cX11_matchAll 70 = .ok (.iaload, 1) := by decide +kernel
theorem dX11_matchAll_71 : decode cX11_matchAll 71 = .ok (.istore_n 3, 1) := by decide +kernel
theorem dX11_matchAll_72 : decode cX11_matchAll 72 = .ok (.iconst 0, 1) := by decide +kernel
theorem dX11_matchAll_73 : decode cX11_matchAll 73 = .ok (.istore 4, 2) := by decide +kernel
theorem dX11_matchAll_75 : decode cX11_matchAll 75 = .ok (.iload 4, 2) := by decide +kernel
theorem dX11_matchAll_77 : decode cX11_matchAll 77 = .ok (.aload_n 0, 1) := by decide +kernel
theorem dX11_matchAll_78 : decode cX11_matchAll 78 = .ok (.getfield 145, 3) := by decide +kernel
theorem dX11_matchAll_81 : decode cX11_matchAll 81 = .ok (.if_icmp .ge 56, 3) := by decide +kernel
theorem dX11_matchAll_84 : decode cX11_matchAll 84 = .ok (.aload_n 0, 1) := by decide +kernel
theorem dX11_matchAll_85 : decode cX11_matchAll 85 = .ok (.iload_n 1, 1) := by decide +kernel
theorem dX11_matchAll_86 : decode cX11_matchAll 86 = .ok (.invokevirtual 218, 3) := by decide +kernel
theorem dX11_matchAll_89 : decode cX11_matchAll 89 = .ok (.iconst (-1), 1) := by decide +kernel
theorem dX11_matchAll_90 : decode cX11_matchAll 90 = .ok (.if_icmp .ne 47, 3) := by decide +kernel
theorem dX11_matchAll_93 : decode cX11_matchAll 93 = .ok (.aload_n 0, 1) := by decide +kernel
theorem dX11_matchAll_94 : decode cX11_matchAll 94 = .ok (.iload 4, 2) := by decide +kernel
theorem dX11_matchAll_96 : decode cX11_matchAll 96 = .ok (.iload_n 1, 1) := by decide +kernel
theorem dX11_matchAll_97 : decode cX11_matchAll 97 = .ok (.iload_n 2, 1) := by decide +kernel
theorem dX11_matchAll_98 : decode cX11_matchAll 98 = .ok (.invokevirtual 261, 3) := by decide +kernel
theorem dX11_matchAll_101 : decode cX11_matchAll 101 = .ok (.ifCond .eq 14, 3) := by decide +kernel
theorem dX11_matchAll_104 : decode cX11_matchAll 104 = .ok (.aload_n 0, 1) := by decide +kernel
theorem dX11_matchAll_105 : decode cX11_matchAll 105 = .ok (.iload 4, 2) := by decide +kernel
theorem dX11_matchAll_107 : decode cX11_matchAll 107 = .ok (.iload_n 1, 1) := by decide +kernel
theorem dX11_matchAll_108 : decode cX11_matchAll 108 = .ok (.iload_n 2, 1) := by decide +kernel
theorem dX11_matchAll_109 : decode cX11_matchAll 109 = .ok (.invokevirtual 264, 3) := by decide +kernel
theorem dX11_matchAll_112 : decode cX11_matchAll 112 = .ok (.goto 4, 3) := by decide +kernel
theorem dX11_matchAll_115 : decode cX11_matchAll 115 = .ok (.iconst 0, 1) := by decide +kernel
theorem dX11_matchAll_116 : decode cX11_matchAll 116 = .ok (.istore 5, 2) := by decide +kernel
theorem dX11_matchAll_118 : decode cX11_matchAll 118 = .ok (.iload 5, 2) := by decide +kernel
theorem dX11_matchAll_120 : decode cX11_matchAll 120 = .ok (.iload_n 3, 1) := by decide +kernel
theorem dX11_matchAll_121 : decode cX11_matchAll 121 = .ok (.if_icmp .le 8, 3) := by decide +kernel
theorem dX11_matchAll_124 : decode cX11_matchAll 124 = .ok (.iload 5, 2) := by decide +kernel
theorem dX11_matchAll_126 : decode cX11_matchAll 126 = .ok (.goto 4, 3) := by decide +kernel
theorem dX11_matchAll_129 : decode cX11_matchAll 129 = .ok (.iload_n 3, 1) := by decide +kernel
theorem dX11_matchAll_130 : decode cX11_matchAll 130 = .ok (.istore_n 3, 1) := by decide +kernel
theorem dX11_matchAll_131 : decode cX11_matchAll 131 = .ok (.iinc 4 1, 3) := by decide +kernel
theorem dX11_matchAll_134 : decode cX11_matchAll 134 = .ok (.goto (-59), 3) := by decide +kernel
theorem dX11_matchAll_137 : decode cX11_matchAll 137 = .ok (.aload_n 0, 1) := by decide +kernel
theorem dX11_matchAll_138 : decode cX11_matchAll 138 = .ok (.getfield 60, 3) := by decide +kernel
theorem dX11_matchAll_141 : decode cX11_matchAll 141 = .ok (.sipush 4096, 3) := by decide +kernel
theorem dX11_matchAll_144 : decode cX11_matchAll 144 = .ok (.iload_n 1, 1) := by decide +kernel
theorem dX11_matchAll_145 : decode cX11_matchAll 145 = .ok (.imul, 1) := by decide +kernel
theorem dX11_matchAll_146 : decode cX11_matchAll 146 = .ok (.iload_n 2, 1) := by decide +kernel
theorem dX11_matchAll_147 : decode cX11_matchAll 147 = .ok (.iadd, 1) := by decide +kernel
theorem dX11_matchAll_148 : decode cX11_matchAll 148 = .ok (.iload_n 3, 1) := by decide +kernel
theorem dX11_matchAll_149 : decode cX11_matchAll 149 = .ok (.iastore, 1) := by decide +kernel
theorem dX11_matchAll_150 : decode cX11_matchAll 150 = .ok (.iinc 2 1, 3) := by decide +kernel
theorem dX11_matchAll_153 : decode cX11_matchAll 153 = .ok (.goto (-106), 3) := by decide +kernel
theorem dX11_matchAll_156 : decode cX11_matchAll 156 = .ok (.iinc 1 (-1), 3) := by decide +kernel
theorem dX11_matchAll_159 : decode cX11_matchAll 159 = .ok (.goto (-118), 3) := by decide +kernel
theorem dX11_matchAll_162 : decode cX11_matchAll 162 = .ok (.return_, 1) := by decide +kernel
theorem dX11_matchOf_0 : decode cX11_matchOf 0 = .ok (.iconst 0, 1) := by decide +kernel
theorem dX11_matchOf_1 : decode cX11_matchOf 1 = .ok (.istore_n 3, 1) := by decide +kernel
theorem dX11_matchOf_2 : decode cX11_matchOf 2 = .ok (.iload_n 3, 1) := by decide +kernel
theorem dX11_matchOf_3 : decode cX11_matchOf 3 = .ok (.aload_n 0, 1) := by decide +kernel
theorem dX11_matchOf_4 : decode cX11_matchOf 4 = .ok (.getfield 145, 3) := by decide +kernel
theorem dX11_matchOf_7 : decode cX11_matchOf 7 = .ok (.if_icmp .ge 52, 3) := by decide +kernel
theorem dX11_matchOf_10 : decode cX11_matchOf 10 = .ok (.aload_n 0, 1) := by decide +kernel
theorem dX11_matchOf_11 : decode cX11_matchOf 11 = .ok (.iload_n 1, 1) := by decide +kernel
theorem dX11_matchOf_12 : decode cX11_matchOf 12 = .ok (.invokevirtual 218, 3) := by decide +kernel
theorem dX11_matchOf_15 : decode cX11_matchOf 15 = .ok (.iconst (-1), 1) := by decide +kernel
theorem dX11_matchOf_16 : decode cX11_matchOf 16 = .ok (.if_icmp .ne 43, 3) := by decide +kernel
theorem dX11_matchOf_19 : decode cX11_matchOf 19 = .ok (.aload_n 0, 1) := by decide +kernel
theorem dX11_matchOf_20 : decode cX11_matchOf 20 = .ok (.iload_n 3, 1) := by decide +kernel
theorem dX11_matchOf_21 : decode cX11_matchOf 21 = .ok (.iload_n 1, 1) := by decide +kernel
theorem dX11_matchOf_22 : decode cX11_matchOf 22 = .ok (.iload_n 2, 1) := by decide +kernel
theorem dX11_matchOf_23 : decode cX11_matchOf 23 = .ok (.invokevirtual 261, 3) := by decide +kernel
theorem dX11_matchOf_26 : decode cX11_matchOf 26 = .ok (.ifCond .eq 27, 3) := by decide +kernel
theorem dX11_matchOf_29 : decode cX11_matchOf 29 = .ok (.aload_n 0, 1) := by decide +kernel
theorem dX11_matchOf_30 : decode cX11_matchOf 30 = .ok (.iload_n 3, 1) := by decide +kernel
theorem dX11_matchOf_31 : decode cX11_matchOf 31 = .ok (.iload_n 1, 1) := by decide +kernel
theorem dX11_matchOf_32 : decode cX11_matchOf 32 = .ok (.iload_n 2, 1) := by decide +kernel
theorem dX11_matchOf_33 : decode cX11_matchOf 33 = .ok (.invokevirtual 264, 3) := by decide +kernel
theorem dX11_matchOf_36 : decode cX11_matchOf 36 = .ok (.aload_n 0, 1) := by decide +kernel
theorem dX11_matchOf_37 : decode cX11_matchOf 37 = .ok (.getfield 60, 3) := by decide +kernel
theorem dX11_matchOf_40 : decode cX11_matchOf 40 = .ok (.sipush 4096, 3) := by decide +kernel
theorem dX11_matchOf_43 : decode cX11_matchOf 43 = .ok (.iload_n 1, 1) := by decide +kernel
theorem dX11_matchOf_44 : decode cX11_matchOf 44 = .ok (.imul, 1) := by decide +kernel
theorem dX11_matchOf_45 : decode cX11_matchOf 45 = .ok (.iload_n 2, 1) := by decide +kernel
theorem dX11_matchOf_46 : decode cX11_matchOf 46 = .ok (.iadd, 1) := by decide +kernel
theorem dX11_matchOf_47 : decode cX11_matchOf 47 = .ok (.iaload, 1) := by decide +kernel
theorem dX11_matchOf_48 : decode cX11_matchOf 48 = .ok (.if_icmp .ne 5, 3) := by decide +kernel
theorem dX11_matchOf_51 : decode cX11_matchOf 51 = .ok (.iload_n 3, 1) := by decide +kernel
theorem dX11_matchOf_52 : decode cX11_matchOf 52 = .ok (.ireturn, 1) := by decide +kernel
theorem dX11_matchOf_53 : decode cX11_matchOf 53 = .ok (.iinc 3 1, 3) := by decide +kernel
theorem dX11_matchOf_56 : decode cX11_matchOf 56 = .ok (.goto (-54), 3) := by decide +kernel
theorem dX11_matchOf_59 : decode cX11_matchOf 59 = .ok (.iconst (-1), 1) := by decide +kernel
theorem dX11_matchOf_60 : decode cX11_matchOf 60 = .ok (.ireturn, 1) := by decide +kernel
theorem dX11_match_0 : decode cX11_match 0 = .ok (.iload_n 1, 1) := by decide +kernel
theorem dX11_match_1 : decode cX11_match 1 = .ok (.bipush (-2), 2) := by decide +kernel
theorem dX11_match_3 : decode cX11_match 3 = .ok (.aload_n 0, 1) := by decide +kernel
theorem dX11_match_4 : decode cX11_match 4 = .ok (.getfield 154, 3) := by decide +kernel
theorem dX11_match_7 : decode cX11_match 7 = .ok (.iconst 1, 1) := by decide +kernel
theorem dX11_match_8 : decode cX11_match 8 = .ok (.isub, 1) := by decide +kernel
theorem dX11_match_9 : decode cX11_match 9 = .ok (.invokestatic 73, 3) := by decide +kernel
theorem dX11_match_12 : decode cX11_match 12 = .ok (.ifCond .ne 6, 3) := by decide +kernel
theorem dX11_match_15 : decode cX11_match 15 = .ok (.ldc 205, 2) := by decide +kernel
theorem dX11_match_17 : decode cX11_match 17 = .ok (.ireturn, 1) := by decide +kernel
theorem dX11_match_18 : decode cX11_match 18 = .ok (.aload_n 0, 1) := by decide +kernel
theorem dX11_match_19 : decode cX11_match 19 = .ok (.invokevirtual 268, 3) := by decide +kernel
theorem dX11_match_22 : decode cX11_match 22 = .ok (.iconst 0, 1) := by decide +kernel
theorem dX11_match_23 : decode cX11_match 23 = .ok (.istore_n 2, 1) := by decide +kernel
theorem dX11_match_24 : decode cX11_match 24 = .ok (.iconst 0, 1) := by decide +kernel
theorem dX11_match_25 : decode cX11_match 25 = .ok (.istore_n 3, 1) := by decide +kernel
theorem dX11_match_26 : decode cX11_match 26 = .ok (.iconst 0, 1) := by decide +kernel
theorem dX11_match_27 : decode cX11_match 27 = .ok (.istore 4, 2) := by decide +kernel
theorem dX11_match_29 : decode cX11_match 29 = .ok (.iconst (-1), 1) := by decide +kernel
theorem dX11_match_30 : decode cX11_match 30 = .ok (.istore 5, 2) := by decide +kernel
theorem dX11_match_32 : decode cX11_match 32 = .ok (.iconst 0, 1) := by decide +kernel
theorem dX11_match_33 : decode cX11_match 33 = .ok (.istore 6, 2) := by decide +kernel
theorem dX11_match_35 : decode cX11_match 35 = .ok (.iload 6, 2) := by decide +kernel
theorem dX11_match_37 : decode cX11_match 37 = .ok (.aload_n 0, 1) := by decide +kernel
theorem dX11_match_38 : decode cX11_match 38 = .ok (.getfield 154, 3) := by decide +kernel
theorem dX11_match_41 : decode cX11_match 41 = .ok (.if_icmp .ge 85, 3) := by decide +kernel
theorem dX11_match_44 : decode cX11_match 44 = .ok (.aload_n 0, 1) := by decide +kernel
theorem dX11_match_45 : decode cX11_match 45 = .ok (.iload 6, 2) := by decide +kernel
theorem dX11_match_47 : decode cX11_match 47 = .ok (.iload_n 2, 1) := by decide +kernel
theorem dX11_match_48 : decode cX11_match 48 = .ok (.invokevirtual 271, 3) := by decide +kernel
theorem dX11_match_51 : decode cX11_match 51 = .ok (.istore 7, 2) := by decide +kernel
theorem dX11_match_53 : decode cX11_match 53 = .ok (.iload_n 2, 1) := by decide +kernel
theorem dX11_match_54 : decode cX11_match 54 = .ok (.iload 7, 2) := by decide +kernel
theorem dX11_match_56 : decode cX11_match 56 = .ok (.iconst (-1), 1) := by decide +kernel
theorem dX11_match_57 : decode cX11_match 57 = .ok (.if_icmp .ne 7, 3) := by decide +kernel
theorem dX11_match_60 : decode cX11_match 60 = .ok (.iconst 0, 1) := by decide +kernel
theorem dX11_match_61 : decode cX11_match 61 = .ok (.goto 7, 3) := by decide +kernel
theorem dX11_match_64 : decode cX11_match 64 = .ok (.iconst 1, 1) := by decide +kernel
theorem dX11_match_65 : decode cX11_match 65 = .ok (.iload 7, 2) := by decide +kernel
theorem dX11_match_67 : decode cX11_match 67 = .ok (.ishl, 1) := by decide +kernel
theorem dX11_match_68 : decode cX11_match 68 = .ok (.ior, 1) := by decide +kernel
theorem dX11_match_69 : decode cX11_match 69 = .ok (.istore_n 2, 1) := by decide +kernel
theorem dX11_match_70 : decode cX11_match 70 = .ok (.iload_n 3, 1) := by decide +kernel
theorem dX11_match_71 : decode cX11_match 71 = .ok (.iload 7, 2) := by decide +kernel
theorem dX11_match_73 : decode cX11_match 73 = .ok (.iconst (-1), 1) := by decide +kernel
theorem dX11_match_74 : decode cX11_match 74 = .ok (.if_icmp .ne 7, 3) := by decide +kernel
theorem dX11_match_77 : decode cX11_match 77 = .ok (.iconst 0, 1) := by decide +kernel
theorem dX11_match_78 : decode cX11_match 78 = .ok (.goto 4, 3) := by decide +kernel
theorem dX11_match_81 : decode cX11_match 81 = .ok (.iconst 1, 1) := by decide +kernel
theorem dX11_match_82 : decode cX11_match 82 = .ok (.iadd, 1) := by decide +kernel
theorem dX11_match_83 : decode cX11_match 83 = .ok (.istore_n 3, 1) := by decide +kernel
theorem dX11_match_84 : decode cX11_match 84 = .ok (.iload 4, 2) := by decide +kernel
theorem dX11_match_86 : decode cX11_match 86 = .ok (.iload 7, 2) := by decide +kernel
theorem dX11_match_88 : decode cX11_match 88 = .ok (.iconst (-1), 1) := by decide +kernel
theorem dX11_match_89 : decode cX11_match 89 = .ok (.if_icmp .ne 7, 3) := by decide +kernel
theorem dX11_match_92 : decode cX11_match 92 = .ok (.iconst 0, 1) := by decide +kernel
theorem dX11_match_93 : decode cX11_match 93 = .ok (.goto 9, 3) := by decide +kernel
theorem dX11_match_96 : decode cX11_match 96 = .ok (.aload_n 0, 1) := by decide +kernel
theorem dX11_match_97 : decode cX11_match 97 = .ok (.iload 7, 2) := by decide +kernel
theorem dX11_match_99 : decode cX11_match 99 = .ok (.invokevirtual 180, 3) := by decide +kernel
theorem dX11_match_102 : decode cX11_match 102 = .ok (.iadd, 1) := by decide +kernel
theorem dX11_match_103 : decode cX11_match 103 = .ok (.istore 4, 2) := by decide +kernel
theorem dX11_match_105 : decode cX11_match 105 = .ok (.iload 6, 2) := by decide +kernel
theorem dX11_match_107 : decode cX11_match 107 = .ok (.iload_n 1, 1) := by decide +kernel
theorem dX11_match_108 : decode cX11_match 108 = .ok (.if_icmp .ne 8, 3) := by decide +kernel
theorem dX11_match_111 : decode cX11_match 111 = .ok (.iload 7, 2) := by decide +kernel
theorem dX11_match_113 : decode cX11_match 113 = .ok (.goto 5, 3) := by decide +kernel
theorem dX11_match_116 : decode cX11_match 116 = .ok (.iload 5, 2) := by decide +kernel
theorem dX11_match_118 : decode cX11_match 118 = .ok (.istore 5, 2) := by decide +kernel
theorem dX11_match_120 : decode cX11_match 120 = .ok (.iinc 6 1, 3) := by decide +kernel
theorem dX11_match_123 : decode cX11_match 123 = .ok (.goto (-88), 3) := by decide +kernel
theorem dX11_match_126 : decode cX11_match 126 = .ok (.iload_n 1, 1) := by decide +kernel
theorem dX11_match_127 : decode cX11_match 127 = .ok (.iconst (-1), 1) := by decide +kernel
theorem dX11_match_128 : decode cX11_match 128 = .ok (.if_icmp .ne 7, 3) := by decide +kernel
theorem dX11_match_131 : decode cX11_match 131 = .ok (.iload_n 3, 1) := by decide +kernel
theorem dX11_match_132 : decode cX11_match 132 = .ok (.goto 16, 3) := by decide +kernel
theorem dX11_match_135 : decode cX11_match 135 = .ok (.iload_n 1, 1) := by decide +kernel
theorem dX11_match_136 : decode cX11_match 136 = .ok (.bipush (-2), 2) := by decide +kernel
theorem dX11_match_138 : decode cX11_match 138 = .ok (.if_icmp .ne 8, 3) := by decide +kernel
theorem dX11_match_141 : decode cX11_match 141 = .ok (.iload 4, 2) := by decide +kernel
theorem dX11_match_143 : decode cX11_match 143 = .ok (.goto 5, 3) := by decide +kernel
theorem dX11_match_146 : decode cX11_match 146 = .ok (.iload 5, 2) := by decide +kernel
theorem dX11_match_148 : decode cX11_match 148 = .ok (.ireturn, 1) := by decide +kernel
theorem dX11_load_0 : decode cX11_load 0 = .ok (.iload_n 1, 1) := by decide +kernel
theorem dX11_load_1 : decode cX11_load 1 = .ok (.iconst 1, 1) := by decide +kernel
theorem dX11_load_2 : decode cX11_load 2 = .ok (.sipush 999, 3) := by decide +kernel
theorem dX11_load_5 : decode cX11_load 5 = .ok (.invokestatic 73, 3) := by decide +kernel
theorem dX11_load_8 : decode cX11_load 8 = .ok (.ifCond .ne 6, 3) := by decide +kernel
theorem dX11_load_11 : decode cX11_load 11 = .ok (.ldc 77, 2) := by decide +kernel
theorem dX11_load_13 : decode cX11_load 13 = .ok (.ireturn, 1) := by decide +kernel
theorem dX11_load_14 : decode cX11_load 14 = .ok (.iconst (-1), 1) := by decide +kernel
theorem dX11_load_15 : decode cX11_load 15 = .ok (.istore_n 2, 1) := by decide +kernel
theorem dX11_load_16 : decode cX11_load 16 = .ok (.iconst 1, 1) := by decide +kernel
theorem dX11_load_17 : decode cX11_load 17 = .ok (.istore_n 3, 1) := by decide +kernel
theorem dX11_load_18 : decode cX11_load 18 = .ok (.iload_n 3, 1) := by decide +kernel
theorem dX11_load_19 : decode cX11_load 19 = .ok (.iconst 1, 1) := by decide +kernel
theorem dX11_load_20 : decode cX11_load 20 = .ok (.aload_n 0, 1) := by decide +kernel
theorem dX11_load_21 : decode cX11_load 21 = .ok (.getfield 145, 3) := by decide +kernel
theorem dX11_load_24 : decode cX11_load 24 = .ok (.ishl, 1) := by decide +kernel
theorem dX11_load_25 : decode cX11_load 25 = .ok (.if_icmp .ge 64, 3) := by decide +kernel
theorem dX11_load_28 : decode cX11_load 28 = .ok (.iload_n 3, 1) := by decide +kernel
theorem dX11_load_29 : decode cX11_load 29 = .ok (.aload_n 0, 1) := by decide +kernel
theorem dX11_load_30 : decode cX11_load 30 = .ok (.iconst 0, 1) := by decide +kernel
theorem dX11_load_31 : decode cX11_load 31 = .ok (.invokevirtual 183, 3) := by decide +kernel
theorem dX11_load_34 : decode cX11_load 34 = .ok (.iconst (-1), 1) := by decide +kernel
theorem dX11_load_35 : decode cX11_load 35 = .ok (.ixor, 1) := by decide +kernel
theorem dX11_load_36 : decode cX11_load 36 = .ok (.iand, 1) := by decide +kernel
theorem dX11_load_37 : decode cX11_load 37 = .ok (.ifCond .ne 23, 3) := by decide +kernel
theorem dX11_load_40 : decode cX11_load 40 = .ok (.iload_n 2, 1) := by decide +kernel
theorem dX11_load_41 : decode cX11_load 41 = .ok (.iconst (-1), 1) := by decide +kernel
theorem dX11_load_42 : decode cX11_load 42 = .ok (.if_icmp .eq 14, 3) := by decide +kernel
theorem dX11_load_45 : decode cX11_load 45 = .ok (.iload_n 3, 1) := by decide +kernel
theorem dX11_load_46 : decode cX11_load 46 = .ok (.invokestatic 233, 3) := by decide +kernel
theorem dX11_load_49 : decode cX11_load 49 = .ok (.iload_n 2, 1) := by decide +kernel
theorem dX11_load_50 : decode cX11_load 50 = .ok (.invokestatic 233, 3) := by decide +kernel
theorem dX11_load_53 : decode cX11_load 53 = .ok (.if_icmp .ge 7, 3) := by decide +kernel
theorem dX11_load_56 : decode cX11_load 56 = .ok (.iconst 1, 1) := by decide +kernel
theorem dX11_load_57 : decode cX11_load 57 = .ok (.goto 4, 3) := by decide +kernel
theorem dX11_load_60 : decode cX11_load 60 = .ok (.iconst 0, 1) := by decide +kernel
theorem dX11_load_61 : decode cX11_load 61 = .ok (.istore 4, 2) := by decide +kernel
theorem dX11_load_63 : decode cX11_load 63 = .ok (.iload 4, 2) := by decide +kernel
theorem dX11_load_65 : decode cX11_load 65 = .ok (.ifCond .eq 16, 3) := by decide +kernel
theorem dX11_load_68 : decode cX11_load 68 = .ok (.aload_n 0, 1) := by decide +kernel
theorem dX11_load_69 : decode cX11_load 69 = .ok (.iload_n 3, 1) := by decide +kernel
theorem dX11_load_70 : decode cX11_load 70 = .ok (.invokevirtual 186, 3) := by decide +kernel
theorem dX11_load_73 : decode cX11_load 73 = .ok (.iload_n 1, 1) := by decide +kernel
theorem dX11_load_74 : decode cX11_load 74 = .ok (.if_icmp .lt 7, 3) := by decide +kernel
theorem dX11_load_77 : decode cX11_load 77 = .ok (.iload_n 3, 1) := by decide +kernel
theorem dX11_load_78 : decode cX11_load 78 = .ok (.goto 4, 3) := by decide +kernel
theorem dX11_load_81 : decode cX11_load 81 = .ok (.iload_n 2, 1) := by decide +kernel
theorem dX11_load_82 : decode cX11_load 82 = .ok (.istore_n 2, 1) := by decide +kernel
theorem dX11_load_83 : decode cX11_load 83 = .ok (.iinc 3 1, 3) := by decide +kernel
theorem dX11_load_86 : decode cX11_load 86 = .ok (.goto (-68), 3) := by decide +kernel
theorem dX11_load_89 : decode cX11_load 89 = .ok (.iload_n 2, 1) := by decide +kernel
theorem dX11_load_90 : decode cX11_load 90 = .ok (.ireturn, 1) := by decide +kernel
theorem dX11_slipsOf_0 : decode cX11_slipsOf 0 = .ok (.iconst 0, 1) := by decide +kernel
theorem dX11_slipsOf_1 : decode cX11_slipsOf 1 = .ok (.istore_n 3, 1) := by decide +kernel
theorem dX11_slipsOf_2 : decode cX11_slipsOf 2 = .ok (.iconst 0, 1) := by decide +kernel
theorem dX11_slipsOf_3 : decode cX11_slipsOf 3 = .ok (.istore 4, 2) := by decide +kernel
theorem dX11_slipsOf_5 : decode cX11_slipsOf 5 = .ok (.iload 4, 2) := by decide +kernel
theorem dX11_slipsOf_7 : decode cX11_slipsOf 7 = .ok (.iconst 4, 1) := by decide +kernel
theorem dX11_slipsOf_8 : decode cX11_slipsOf 8 = .ok (.if_icmp .ge 38, 3) := by decide +kernel
theorem dX11_slipsOf_11 : decode cX11_slipsOf 11 = .ok (.iload_n 3, 1) := by decide +kernel
theorem dX11_slipsOf_12 : decode cX11_slipsOf 12 = .ok (.aload_n 0, 1) := by decide +kernel
theorem dX11_slipsOf_13 : decode cX11_slipsOf 13 = .ok (.iload_n 1, 1) := by decide +kernel
theorem dX11_slipsOf_14 : decode cX11_slipsOf 14 = .ok (.iload 4, 2) := by decide +kernel
theorem dX11_slipsOf_16 : decode cX11_slipsOf 16 = .ok (.invokevirtual 163, 3) := by decide +kernel
theorem dX11_slipsOf_19 : decode cX11_slipsOf 19 = .ok (.aload_n 0, 1) := by decide +kernel
theorem dX11_slipsOf_20 : decode cX11_slipsOf 20 = .ok (.getfield 20, 3) := by decide +kernel
theorem dX11_slipsOf_23 : decode cX11_slipsOf 23 = .ok (.iconst 4, 1) := by decide +kernel
theorem dX11_slipsOf_24 : decode cX11_slipsOf 24 = .ok (.iload_n 2, 1) := by decide +kernel
theorem dX11_slipsOf_25 : decode cX11_slipsOf 25 = .ok (.imul, 1) := by decide +kernel
theorem dX11_slipsOf_26 : decode cX11_slipsOf 26 = .ok (.iload 4, 2) := by decide +kernel
theorem dX11_slipsOf_28 : decode cX11_slipsOf 28 = .ok (.iadd, 1) := by decide +kernel
theorem dX11_slipsOf_29 : decode cX11_slipsOf 29 = .ok (.iaload, 1) := by decide +kernel
theorem dX11_slipsOf_30 : decode cX11_slipsOf 30 = .ok (.if_icmp .ne 7, 3) := by decide +kernel
theorem dX11_slipsOf_33 : decode cX11_slipsOf 33 = .ok (.iconst 0, 1) := by decide +kernel
theorem dX11_slipsOf_34 : decode cX11_slipsOf 34 = .ok (.goto 4, 3) := by decide +kernel
theorem dX11_slipsOf_37 : decode cX11_slipsOf 37 = .ok (.iconst 1, 1) := by decide +kernel
theorem dX11_slipsOf_38 : decode cX11_slipsOf 38 = .ok (.iadd, 1) := by decide +kernel
theorem dX11_slipsOf_39 : decode cX11_slipsOf 39 = .ok (.istore_n 3, 1) := by decide +kernel
theorem dX11_slipsOf_40 : decode cX11_slipsOf 40 = .ok (.iinc 4 1, 3) := by decide +kernel
theorem dX11_slipsOf_43 : decode cX11_slipsOf 43 = .ok (.goto (-38), 3) := by decide +kernel
theorem dX11_slipsOf_46 : decode cX11_slipsOf 46 = .ok (.iload_n 3, 1) := by decide +kernel
theorem dX11_slipsOf_47 : decode cX11_slipsOf 47 = .ok (.ireturn, 1) := by decide +kernel
theorem dX11_slips_0 : decode cX11_slips 0 = .ok (.aload_n 0, 1) := by decide +kernel
theorem dX11_slips_1 : decode cX11_slips 1 = .ok (.iload_n 1, 1) := by decide +kernel
theorem dX11_slips_2 : decode cX11_slips 2 = .ok (.invokevirtual 201, 3) := by decide +kernel
theorem dX11_slips_5 : decode cX11_slips 5 = .ok (.ifCond .eq 20, 3) := by decide +kernel
theorem dX11_slips_8 : decode cX11_slips 8 = .ok (.aload_n 0, 1) := by decide +kernel
theorem dX11_slips_9 : decode cX11_slips 9 = .ok (.iload_n 2, 1) := by decide +kernel
theorem dX11_slips_10 : decode cX11_slips 10 = .ok (.invokevirtual 212, 3) := by decide +kernel
theorem dX11_slips_13 : decode cX11_slips 13 = .ok (.ifCond .eq 12, 3) := by decide +kernel
theorem dX11_slips_16 : decode cX11_slips 16 = .ok (.aload_n 0, 1) := by decide +kernel
theorem dX11_slips_17 : decode cX11_slips 17 = .ok (.iload_n 1, 1) := by decide +kernel
theorem dX11_slips_18 : decode cX11_slips 18 = .ok (.iload_n 2, 1) := by decide +kernel
theorem dX11_slips_19 : decode cX11_slips 19 = .ok (.invokevirtual 274, 3) := by decide +kernel
theorem dX11_slips_22 : decode cX11_slips 22 = .ok (.goto 5, 3) := by decide +kernel
theorem dX11_slips_25 : decode cX11_slips 25 = .ok (.ldc 205, 2) := by decide +kernel
theorem dX11_slips_27 : decode cX11_slips 27 = .ok (.ireturn, 1) := by decide +kernel
theorem dX11_undid_0 : decode cX11_undid 0 = .ok (.aload_n 0, 1) := by decide +kernel
theorem dX11_undid_1 : decode cX11_undid 1 = .ok (.iload_n 1, 1) := by decide +kernel
theorem dX11_undid_2 : decode cX11_undid 2 = .ok (.invokevirtual 201, 3) := by decide +kernel
theorem dX11_undid_5 : decode cX11_undid 5 = .ok (.ifCond .ne 6, 3) := by decide +kernel
theorem dX11_undid_8 : decode cX11_undid 8 = .ok (.ldc 205, 2) := by decide +kernel
theorem dX11_undid_10 : decode cX11_undid 10 = .ok (.ireturn, 1) := by decide +kernel
theorem dX11_undid_11 : decode cX11_undid 11 = .ok (.iload_n 2, 1) := by decide +kernel
theorem dX11_undid_12 : decode cX11_undid 12 = .ok (.iconst 0, 1) := by decide +kernel
theorem dX11_undid_13 : decode cX11_undid 13 = .ok (.iconst 2, 1) := by decide +kernel
theorem dX11_undid_14 : decode cX11_undid 14 = .ok (.invokestatic 73, 3) := by decide +kernel
theorem dX11_undid_17 : decode cX11_undid 17 = .ok (.ifCond .ne 6, 3) := by decide +kernel
theorem dX11_undid_20 : decode cX11_undid 20 = .ok (.ldc 77, 2) := by decide +kernel
theorem dX11_undid_22 : decode cX11_undid 22 = .ok (.ireturn, 1) := by decide +kernel
theorem dX11_undid_23 : decode cX11_undid 23 = .ok (.iconst (-1), 1) := by decide +kernel
theorem dX11_undid_24 : decode cX11_undid 24 = .ok (.istore_n 3, 1) := by decide +kernel
theorem dX11_undid_25 : decode cX11_undid 25 = .ok (.iconst 0, 1) := by decide +kernel
theorem dX11_undid_26 : decode cX11_undid 26 = .ok (.istore 4, 2) := by decide +kernel
theorem dX11_undid_28 : decode cX11_undid 28 = .ok (.iconst (-1), 1) := by decide +kernel
theorem dX11_undid_29 : decode cX11_undid 29 = .ok (.istore 5, 2) := by decide +kernel
theorem dX11_undid_31 : decode cX11_undid 31 = .ok (.iconst 0, 1) := by decide +kernel
theorem dX11_undid_32 : decode cX11_undid 32 = .ok (.istore 6, 2) := by decide +kernel
theorem dX11_undid_34 : decode cX11_undid 34 = .ok (.iload 6, 2) := by decide +kernel
theorem dX11_undid_36 : decode cX11_undid 36 = .ok (.aload_n 0, 1) := by decide +kernel
theorem dX11_undid_37 : decode cX11_undid 37 = .ok (.getfield 151, 3) := by decide +kernel
theorem dX11_undid_40 : decode cX11_undid 40 = .ok (.if_icmp .ge 93, 3) := by decide +kernel
theorem dX11_undid_43 : decode cX11_undid 43 = .ok (.aload_n 0, 1) := by decide +kernel
theorem dX11_undid_44 : decode cX11_undid 44 = .ok (.iload_n 1, 1) := by decide +kernel
theorem dX11_undid_45 : decode cX11_undid 45 = .ok (.iload 6, 2) := by decide +kernel
theorem dX11_undid_47 : decode cX11_undid 47 = .ok (.invokevirtual 274, 3) := by decide +kernel
theorem dX11_undid_50 : decode cX11_undid 50 = .ok (.istore 7, 2) := by decide +kernel
theorem dX11_undid_52 : decode cX11_undid 52 = .ok (.iload_n 3, 1) := by decide +kernel
theorem dX11_undid_53 : decode cX11_undid 53 = .ok (.iconst (-1), 1) := by decide +kernel
theorem dX11_undid_54 : decode cX11_undid 54 = .ok (.if_icmp .eq 9, 3) := by decide +kernel
theorem dX11_undid_57 : decode cX11_undid 57 = .ok (.iload 7, 2) := by decide +kernel
theorem dX11_undid_59 : decode cX11_undid 59 = .ok (.iload_n 3, 1) := by decide +kernel
theorem dX11_undid_60 : decode cX11_undid 60 = .ok (.if_icmp .ge 10, 3) := by decide +kernel
theorem dX11_undid_63 : decode cX11_undid 63 = .ok (.iconst 1, 1) := by decide +kernel
theorem dX11_undid_64 : decode cX11_undid 64 = .ok (.iload 6, 2) := by decide +kernel
theorem dX11_undid_66 : decode cX11_undid 66 = .ok (.ishl, 1) := by decide +kernel
theorem dX11_undid_67 : decode cX11_undid 67 = .ok (.goto 21, 3) := by decide +kernel
theorem dX11_undid_70 : decode cX11_undid 70 = .ok (.iload 7, 2) := by decide +kernel
theorem dX11_undid_72 : decode cX11_undid 72 = .ok (.iload_n 3, 1) := by decide +kernel
theorem dX11_undid_73 : decode cX11_undid 73 = .ok (.if_icmp .ne 13, 3) := by decide +kernel
theorem dX11_undid_76 : decode cX11_undid 76 = .ok (.iload 4, 2) := by decide +kernel
theorem dX11_undid_78 : decode cX11_undid 78 = .ok (.iconst 1, 1) := by decide +kernel
theorem dX11_undid_79 : decode cX11_undid 79 = .ok (.iload 6, 2) := by decide +kernel
theorem dX11_undid_81 : decode cX11_undid 81 = .ok (.ishl, 1) := by decide +kernel
theorem dX11_undid_82 : decode cX11_undid 82 = .ok (.ior, 1) := by decide +kernel
theorem dX11_undid_83 : decode cX11_undid 83 = .ok (.goto 5, 3) := by decide +kernel
theorem dX11_undid_86 : decode cX11_undid 86 = .ok (.iload 4, 2) := by decide +kernel
theorem dX11_undid_88 : decode cX11_undid 88 = .ok (.istore 4, 2) := by decide +kernel
theorem dX11_undid_90 : decode cX11_undid 90 = .ok (.iload 4, 2) := by decide +kernel
theorem dX11_undid_92 : decode cX11_undid 92 = .ok (.iload 6, 2) := by decide +kernel
theorem dX11_undid_94 : decode cX11_undid 94 = .ok (.invokestatic 177, 3) := by decide +kernel
theorem dX11_undid_97 : decode cX11_undid 97 = .ok (.ifCond .eq 8, 3) := by decide +kernel
theorem dX11_undid_100 : decode cX11_undid 100 = .ok (.iload 6, 2) := by decide +kernel
theorem dX11_undid_102 : decode cX11_undid 102 = .ok (.goto 5, 3) := by decide +kernel
theorem dX11_undid_105 : decode cX11_undid 105 = .ok (.iload 5, 2) := by decide +kernel
theorem dX11_undid_107 : decode cX11_undid 107 = .ok (.istore 5, 2) := by decide +kernel
theorem dX11_undid_109 : decode cX11_undid 109 = .ok (.iload_n 3, 1) := by decide +kernel
theorem dX11_undid_110 : decode cX11_undid 110 = .ok (.iconst (-1), 1) := by decide +kernel
theorem dX11_undid_111 : decode cX11_undid 111 = .ok (.if_icmp .eq 9, 3) := by decide +kernel
theorem dX11_undid_114 : decode cX11_undid 114 = .ok (.iload 7, 2) := by decide +kernel
theorem dX11_undid_116 : decode cX11_undid 116 = .ok (.iload_n 3, 1) := by decide +kernel
theorem dX11_undid_117 : decode cX11_undid 117 = .ok (.if_icmp .ge 8, 3) := by decide +kernel
theorem dX11_undid_120 : decode cX11_undid 120 = .ok (.iload 7, 2) := by decide +kernel
theorem dX11_undid_122 : decode cX11_undid 122 = .ok (.goto 4, 3) := by decide +kernel
theorem dX11_undid_125 : decode cX11_undid 125 = .ok (.iload_n 3, 1) := by decide +kernel
theorem dX11_undid_126 : decode cX11_undid 126 = .ok (.istore_n 3, 1) := by decide +kernel
theorem dX11_undid_127 : decode cX11_undid 127 = .ok (.iinc 6 1, 3) := by decide +kernel
theorem dX11_undid_130 : decode cX11_undid 130 = .ok (.goto (-96), 3) := by decide +kernel
theorem dX11_undid_133 : decode cX11_undid 133 = .ok (.iload_n 2, 1) := by decide +kernel
theorem dX11_undid_134 : decode cX11_undid 134 = .ok (.ifCond .ne 8, 3) := by decide +kernel
theorem dX11_undid_137 : decode cX11_undid 137 = .ok (.iload 4, 2) := by decide +kernel
theorem dX11_undid_139 : decode cX11_undid 139 = .ok (.goto 27, 3) := by decide +kernel
theorem dX11_undid_142 : decode cX11_undid 142 = .ok (.iload_n 2, 1) := by decide +kernel
theorem dX11_undid_143 : decode cX11_undid 143 = .ok (.iconst 1, 1) := by decide +kernel
theorem dX11_undid_144 : decode cX11_undid 144 = .ok (.if_icmp .ne 7, 3) := by decide +kernel
theorem dX11_undid_147 : decode cX11_undid 147 = .ok (.iload_n 3, 1) := by decide +kernel
theorem dX11_undid_148 : decode cX11_undid 148 = .ok (.goto 18, 3) := by decide +kernel
theorem dX11_undid_151 : decode cX11_undid 151 = .ok (.iload 4, 2) := by decide +kernel
theorem dX11_undid_153 : decode cX11_undid 153 = .ok (.invokestatic 233, 3) := by decide +kernel
theorem dX11_undid_156 : decode cX11_undid 156 = .ok (.iconst 1, 1) := by decide +kernel
theorem dX11_undid_157 : decode cX11_undid 157 = .ok (.if_icmp .ne 8, 3) := by decide +kernel
theorem dX11_undid_160 : decode cX11_undid 160 = .ok (.iload 5, 2) := by decide +kernel
theorem dX11_undid_162 : decode cX11_undid 162 = .ok (.goto 4, 3) := by decide +kernel
theorem dX11_undid_165 : decode cX11_undid 165 = .ok (.iconst (-1), 1) := by decide +kernel
theorem dX11_undid_166 : decode cX11_undid 166 = .ok (.ireturn, 1) := by decide +kernel
theorem dX11_change_0 : decode cX11_change 0 = .ok (.aload_n 0, 1) := by decide +kernel
theorem dX11_change_1 : decode cX11_change 1 = .ok (.iload_n 1, 1) := by decide +kernel
theorem dX11_change_2 : decode cX11_change 2 = .ok (.invokevirtual 201, 3) := by decide +kernel
theorem dX11_change_5 : decode cX11_change 5 = .ok (.ifCond .ne 6, 3) := by decide +kernel
theorem dX11_change_8 : decode cX11_change 8 = .ok (.ldc 205, 2) := by decide +kernel
theorem dX11_change_10 : decode cX11_change 10 = .ok (.ireturn, 1) := by decide +kernel
theorem dX11_change_11 : decode cX11_change 11 = .ok (.aload_n 0, 1) := by decide +kernel
theorem dX11_change_12 : decode cX11_change 12 = .ok (.iload_n 1, 1) := by decide +kernel
theorem dX11_change_13 : decode cX11_change 13 = .ok (.invokevirtual 173, 3) := by decide +kernel
theorem dX11_change_16 : decode cX11_change 16 = .ok (.iconst (-1), 1) := by decide +kernel
theorem dX11_change_17 : decode cX11_change 17 = .ok (.if_icmp .eq 5, 3) := by decide +kernel
theorem dX11_change_20 : decode cX11_change 20 = .ok (.iconst (-1), 1) := by decide +kernel
theorem dX11_change_21 : decode cX11_change 21 = .ok (.ireturn, 1) := by decide +kernel
theorem dX11_change_22 : decode cX11_change 22 = .ok (.iconst (-1), 1) := by decide +kernel
theorem dX11_change_23 : decode cX11_change 23 = .ok (.istore_n 2, 1) := by decide +kernel
theorem dX11_change_24 : decode cX11_change 24 = .ok (.bipush 10, 2) := by decide +kernel
theorem dX11_change_26 : decode cX11_change 26 = .ok (.istore_n 3, 1) := by decide +kernel
theorem dX11_change_27 : decode cX11_change 27 = .ok (.iconst 0, 1) := by decide +kernel
theorem dX11_change_28 : decode cX11_change 28 = .ok (.istore 4, 2) := by decide +kernel
theorem dX11_change_30 : decode cX11_change 30 = .ok (.iload 4, 2) := by decide +kernel
theorem dX11_change_32 : decode cX11_change 32 = .ok (.aload_n 0, 1) := by decide +kernel
theorem dX11_change_33 : decode cX11_change 33 = .ok (.getfield 148, 3) := by decide +kernel
theorem dX11_change_36 : decode cX11_change 36 = .ok (.if_icmp .ge 142, 3) := by decide +kernel
theorem dX11_change_39 : decode cX11_change 39 = .ok (.aload_n 0, 1) := by decide +kernel
theorem dX11_change_40 : decode cX11_change 40 = .ok (.getfield 38, 3) := by decide +kernel
theorem dX11_change_43 : decode cX11_change 43 = .ok (.bipush 24, 2) := by decide +kernel
theorem dX11_change_45 : decode cX11_change 45 = .ok (.iload 4, 2) := by decide +kernel
theorem dX11_change_47 : decode cX11_change 47 = .ok (.iadd, 1) := by decide +kernel
theorem dX11_change_48 : decode cX11_change 48 = .ok (.iaload, 1) := by decide +kernel
theorem dX11_change_49 : decode cX11_change 49 = .ok (.istore 5, 2) := by decide +kernel
theorem dX11_change_51 : decode cX11_change 51 = .ok (.iconst 0, 1) := by decide +kernel
theorem dX11_change_52 : decode cX11_change 52 = .ok (.istore 6, 2) := by decide +kernel
theorem dX11_change_54 : decode cX11_change 54 = .ok (.iload 6, 2) := by decide +kernel
theorem dX11_change_56 : decode cX11_change 56 = .ok (.bipush 9, 2) := by decide +kernel
theorem dX11_change_58 : decode cX11_change 58 = .ok (.if_icmp .gt 114, 3) := by decide +kernel
theorem dX11_change_61 : decode cX11_change 61 = .ok (.iload 6, 2) := by decide +kernel
theorem dX11_change_63 : decode cX11_change 63 = .ok (.aload_n 0, 1) := by decide +kernel
theorem dX11_change_64 : decode cX11_change 64 = .ok (.getfield 17, 3) := by decide +kernel
theorem dX11_change_67 : decode cX11_change 67 = .ok (.iconst 4, 1) := by decide +kernel
theorem dX11_change_68 : decode cX11_change 68 = .ok (.iload 5, 2) := by decide +kernel
theorem dX11_change_70 : decode cX11_change 70 = .ok (.imul, 1) := by decide +kernel
theorem dX11_change_71 : decode cX11_change 71 = .ok (.iconst 2, 1) := by decide +kernel
theorem dX11_change_72 : decode cX11_change 72 = .ok (.iadd, 1) := by decide +kernel
theorem dX11_change_73 : decode cX11_change 73 = .ok (.iaload, 1) := by decide +kernel
theorem dX11_change_74 : decode cX11_change 74 = .ok (.if_icmp .ge 20, 3) := by decide +kernel
theorem dX11_change_77 : decode cX11_change 77 = .ok (.aload_n 0, 1) := by decide +kernel
theorem dX11_change_78 : decode cX11_change 78 = .ok (.getfield 17, 3) := by decide +kernel
theorem dX11_change_81 : decode cX11_change 81 = .ok (.iconst 4, 1) := by decide +kernel
theorem dX11_change_82 : decode cX11_change 82 = .ok (.iload 5, 2) := by decide +kernel
theorem dX11_change_84 : decode cX11_change 84 = .ok (.imul, 1) := by decide +kernel
theorem dX11_change_85 : decode cX11_change 85 = .ok (.iconst 2, 1) := by decide +kernel
theorem dX11_change_86 : decode cX11_change 86 = .ok (.iadd, 1) := by decide +kernel
theorem dX11_change_87 : decode cX11_change 87 = .ok (.iaload, 1) := by decide +kernel
theorem dX11_change_88 : decode cX11_change 88 = .ok (.iload 6, 2) := by decide +kernel
theorem dX11_change_90 : decode cX11_change 90 = .ok (.isub, 1) := by decide +kernel
theorem dX11_change_91 : decode cX11_change 91 = .ok (.goto 17, 3) := by decide +kernel
theorem dX11_change_94 : decode cX11_change 94 = .ok (.iload 6, 2) := by decide +kernel
theorem dX11_change_96 : decode cX11_change 96 = .ok (.aload_n 0, 1) := by decide +kernel
theorem dX11_change_97 : decode cX11_change 97 = .ok (.getfield 17, 3) := by decide +kernel
theorem dX11_change_100 : decode cX11_change 100 = .ok (.iconst 4, 1) := by decide +kernel
theorem dX11_change_101 : decode cX11_change 101 = .ok (.iload 5, 2) := by decide +kernel
theorem dX11_change_103 : decode cX11_change 103 = .ok (.imul, 1) := by decide +kernel
theorem dX11_change_104 : decode cX11_change 104 = .ok (.iconst 2, 1) := by decide +kernel
theorem dX11_change_105 : decode cX11_change 105 = .ok (.iadd, 1) := by decide +kernel
theorem dX11_change_106 : decode cX11_change 106 = .ok (.iaload, 1) := by decide +kernel
theorem dX11_change_107 : decode cX11_change 107 = .ok (.isub, 1) := by decide +kernel
theorem dX11_change_108 : decode cX11_change 108 = .ok (.istore 7, 2) := by decide +kernel
theorem dX11_change_110 : decode cX11_change 110 = .ok (.iload 7, 2) := by decide +kernel
theorem dX11_change_112 : decode cX11_change 112 = .ok (.ifCond .le 54, 3) := by decide +kernel
theorem dX11_change_115 : decode cX11_change 115 = .ok (.iload 7, 2) := by decide +kernel
theorem dX11_change_117 : decode cX11_change 117 = .ok (.iload_n 3, 1) := by decide +kernel
theorem dX11_change_118 : decode cX11_change 118 = .ok (.if_icmp .ge 48, 3) := by decide +kernel
theorem dX11_change_121 : decode cX11_change 121 = .ok (.aload_n 0, 1) := by decide +kernel
theorem dX11_change_122 : decode cX11_change 122 = .ok (.getfield 17, 3) := by decide +kernel
theorem dX11_change_125 : decode cX11_change 125 = .ok (.iconst 4, 1) := by decide +kernel
theorem dX11_change_126 : decode cX11_change 126 = .ok (.iload 5, 2) := by decide +kernel
theorem dX11_change_128 : decode cX11_change 128 = .ok (.imul, 1) := by decide +kernel
theorem dX11_change_129 : decode cX11_change 129 = .ok (.iconst 1, 1) := by decide +kernel
theorem dX11_change_130 : decode cX11_change 130 = .ok (.iadd, 1) := by decide +kernel
theorem dX11_change_131 : decode cX11_change 131 = .ok (.iaload, 1) := by decide +kernel
theorem dX11_change_132 : decode cX11_change 132 = .ok (.iload 6, 2) := by decide +kernel
theorem dX11_change_134 : decode cX11_change 134 = .ok (.aload_n 0, 1) := by decide +kernel
theorem dX11_change_135 : decode cX11_change 135 = .ok (.iload_n 1, 1) := by decide +kernel
theorem dX11_change_136 : decode cX11_change 136 = .ok (.aload_n 0, 1) := by decide +kernel
theorem dX11_change_137 : decode cX11_change 137 = .ok (.getfield 17, 3) := by decide +kernel
theorem dX11_change_140 : decode cX11_change 140 = .ok (.iconst 4, 1) := by decide +kernel
theorem dX11_change_141 : decode cX11_change 141 = .ok (.iload 5, 2) := by decide +kernel
theorem dX11_change_143 : decode cX11_change 143 = .ok (.imul, 1) := by decide +kernel
theorem dX11_change_144 : decode cX11_change 144 = .ok (.iaload, 1) := by decide +kernel
theorem dX11_change_145 : decode cX11_change 145 = .ok (.invokevirtual 163, 3) := by decide +kernel
theorem dX11_change_148 : decode cX11_change 148 = .ok (.invokestatic 166, 3) := by decide +kernel
theorem dX11_change_151 : decode cX11_change 151 = .ok (.ifCond .eq 15, 3) := by decide +kernel
theorem dX11_change_154 : decode cX11_change 154 = .ok (.bipush 10, 2) := by decide +kernel
theorem dX11_change_156 : decode cX11_change 156 = .ok (.iload 5, 2) := by decide +kernel
theorem dX11_change_158 : decode cX11_change 158 = .ok (.imul, 1) := by decide +kernel
theorem dX11_change_159 : decode cX11_change 159 = .ok (.iload 6, 2) := by decide +kernel
theorem dX11_change_161 : decode cX11_change 161 = .ok (.iadd, 1) := by decide +kernel
theorem dX11_change_162 : decode cX11_change 162 = .ok (.istore_n 2, 1) := by decide +kernel
theorem dX11_change_163 : decode cX11_change 163 = .ok (.iload 7, 2) := by decide +kernel
theorem dX11_change_165 : decode cX11_change 165 = .ok (.istore_n 3, 1) := by decide +kernel
theorem dX11_change_166 : decode cX11_change 166 = .ok (.iinc 6 1, 3) := by decide +kernel
theorem dX11_change_169 : decode cX11_change 169 = .ok (.goto (-115), 3) := by decide +kernel
theorem dX11_change_172 : decode cX11_change 172 = .ok (.iinc 4 1, 3) := by decide +kernel
theorem dX11_change_175 : decode cX11_change 175 = .ok (.goto (-145), 3) := by decide +kernel
theorem dX11_change_178 : decode cX11_change 178 = .ok (.iload_n 2, 1) := by decide +kernel
theorem dX11_change_179 : decode cX11_change 179 = .ok (.ireturn, 1) := by decide +kernel
theorem dX11_alike_0 : decode cX11_alike 0 = .ok (.iconst 0, 1) := by decide +kernel
theorem dX11_alike_1 : decode cX11_alike 1 = .ok (.istore_n 2, 1) := by decide +kernel
theorem dX11_alike_2 : decode cX11_alike 2 = .ok (.iconst 0, 1) := by decide +kernel
theorem dX11_alike_3 : decode cX11_alike 3 = .ok (.istore_n 3, 1) := by decide +kernel
theorem dX11_alike_4 : decode cX11_alike 4 = .ok (.iload_n 3, 1) := by decide +kernel
theorem dX11_alike_5 : decode cX11_alike 5 = .ok (.aload_n 0, 1) := by decide +kernel
theorem dX11_alike_6 : decode cX11_alike 6 = .ok (.getfield 145, 3) := by decide +kernel
theorem dX11_alike_9 : decode cX11_alike 9 = .ok (.if_icmp .ge 108, 3) := by decide +kernel
theorem dX11_alike_12 : decode cX11_alike 12 = .ok (.iload_n 3, 1) := by decide +kernel
theorem dX11_alike_13 : decode cX11_alike 13 = .ok (.iconst 1, 1) := by decide +kernel
theorem dX11_alike_14 : decode cX11_alike 14 = .ok (.iadd, 1) := by decide +kernel
theorem dX11_alike_15 : decode cX11_alike 15 = .ok (.istore 4, 2) := by decide +kernel
theorem dX11_alike_17 : decode cX11_alike 17 = .ok (.iload 4, 2) := by decide +kernel
theorem dX11_alike_19 : decode cX11_alike 19 = .ok (.aload_n 0, 1) := by decide +kernel
theorem dX11_alike_20 : decode cX11_alike 20 = .ok (.getfield 145, 3) := by decide +kernel
theorem dX11_alike_23 : decode cX11_alike 23 = .ok (.if_icmp .ge 88, 3) := by decide +kernel
theorem dX11_alike_26 : decode cX11_alike 26 = .ok (.iconst 1, 1) := by decide +kernel
theorem dX11_alike_27 : decode cX11_alike 27 = .ok (.istore 5, 2) := by decide +kernel
theorem dX11_alike_29 : decode cX11_alike 29 = .ok (.iconst 0, 1) := by decide +kernel
theorem dX11_alike_30 : decode cX11_alike 30 = .ok (.istore 6, 2) := by decide +kernel
theorem dX11_alike_32 : decode cX11_alike 32 = .ok (.iload 6, 2) := by decide +kernel
theorem dX11_alike_34 : decode cX11_alike 34 = .ok (.iconst 4, 1) := by decide +kernel
theorem dX11_alike_35 : decode cX11_alike 35 = .ok (.if_icmp .ge 39, 3) := by decide +kernel
theorem dX11_alike_38 : decode cX11_alike 38 = .ok (.iload 5, 2) := by decide +kernel
theorem dX11_alike_40 : decode cX11_alike 40 = .ok (.ifCond .eq 25, 3) := by decide +kernel
theorem dX11_alike_43 : decode cX11_alike 43 = .ok (.aload_n 0, 1) := by decide +kernel
theorem dX11_alike_44 : decode cX11_alike 44 = .ok (.iload_n 3, 1) := by decide +kernel
theorem dX11_alike_45 : decode cX11_alike 45 = .ok (.iload 6, 2) := by decide +kernel
theorem dX11_alike_47 : decode cX11_alike 47 = .ok (.invokevirtual 163, 3) := by decide +kernel
theorem dX11_alike_50 : decode cX11_alike 50 = .ok (.aload_n 0, 1) := by decide +kernel
theorem dX11_alike_51 : decode cX11_alike 51 = .ok (.iload 4, 2) := by decide +kernel
theorem dX11_alike_53 : decode cX11_alike 53 = .ok (.iload 6, 2) := by decide +kernel
theorem dX11_alike_55 : decode cX11_alike 55 = .ok (.invokevirtual 163, 3) := by decide +kernel
theorem dX11_alike_58 : decode cX11_alike 58 = .ok (.if_icmp .ne 7, 3) := by decide +kernel
theorem dX11_alike_61 : decode cX11_alike 61 = .ok (.iconst 1, 1) := by decide +kernel
theorem dX11_alike_62 : decode cX11_alike 62 = .ok (.goto 4, 3) := by decide +kernel
theorem dX11_alike_65 : decode cX11_alike 65 = .ok (.iconst 0, 1) := by decide +kernel
theorem dX11_alike_66 : decode cX11_alike 66 = .ok (.istore 5, 2) := by decide +kernel
theorem dX11_alike_68 : decode cX11_alike 68 = .ok (.iinc 6 1, 3) := by decide +kernel
theorem dX11_alike_71 : decode cX11_alike 71 = .ok (.goto (-39), 3) := by decide +kernel
theorem dX11_alike_74 : decode cX11_alike 74 = .ok (.iload 5, 2) := by decide +kernel
theorem dX11_alike_76 : decode cX11_alike 76 = .ok (.ifCond .eq 16, 3) := by decide +kernel
theorem dX11_alike_79 : decode cX11_alike 79 = .ok (.iload_n 2, 1) := by decide +kernel
theorem dX11_alike_80 : decode cX11_alike 80 = .ok (.iload_n 1, 1) := by decide +kernel
theorem dX11_alike_81 : decode cX11_alike 81 = .ok (.if_icmp .ne 11, 3) := by decide +kernel
theorem dX11_alike_84 : decode cX11_alike 84 = .ok (.bipush 100, 2) := by decide +kernel
theorem dX11_alike_86 : decode cX11_alike 86 = .ok (.iload_n 3, 1) := by decide +kernel
theorem dX11_alike_87 : decode cX11_alike 87 = .ok (.imul, 1) := by decide +kernel
theorem dX11_alike_88 : decode cX11_alike 88 = .ok (.iload 4, 2) := by decide +kernel
theorem dX11_alike_90 : decode cX11_alike 90 = .ok (.iadd, 1) := by decide +kernel
theorem dX11_alike_91 : decode cX11_alike 91 = .ok (.ireturn, 1) := by decide +kernel
theorem dX11_alike_92 : decode cX11_alike 92 = .ok (.iload_n 2, 1) := by decide +kernel
theorem dX11_alike_93 : decode cX11_alike 93 = .ok (.iload 5, 2) := by decide +kernel
theorem dX11_alike_95 : decode cX11_alike 95 = .ok (.ifCond .eq 7, 3) := by decide +kernel
theorem dX11_alike_98 : decode cX11_alike 98 = .ok (.iconst 1, 1) := by decide +kernel
theorem dX11_alike_99 : decode cX11_alike 99 = .ok (.goto 4, 3) := by decide +kernel
theorem dX11_alike_102 : decode cX11_alike 102 = .ok (.iconst 0, 1) := by decide +kernel
theorem dX11_alike_103 : decode cX11_alike 103 = .ok (.iadd, 1) := by decide +kernel
theorem dX11_alike_104 : decode cX11_alike 104 = .ok (.istore_n 2, 1) := by decide +kernel
theorem dX11_alike_105 : decode cX11_alike 105 = .ok (.iinc 4 1, 3) := by decide +kernel
theorem dX11_alike_108 : decode cX11_alike 108 = .ok (.goto (-91), 3) := by decide +kernel
theorem dX11_alike_111 : decode cX11_alike 111 = .ok (.iinc 3 1, 3) := by decide +kernel
theorem dX11_alike_114 : decode cX11_alike 114 = .ok (.goto (-110), 3) := by decide +kernel
theorem dX11_alike_117 : decode cX11_alike 117 = .ok (.iload_n 1, 1) := by decide +kernel
theorem dX11_alike_118 : decode cX11_alike 118 = .ok (.iconst (-1), 1) := by decide +kernel
theorem dX11_alike_119 : decode cX11_alike 119 = .ok (.if_icmp .ne 7, 3) := by decide +kernel
theorem dX11_alike_122 : decode cX11_alike 122 = .ok (.iload_n 2, 1) := by decide +kernel
theorem dX11_alike_123 : decode cX11_alike 123 = .ok (.goto 4, 3) := by decide +kernel
theorem dX11_alike_126 : decode cX11_alike 126 = .ok (.iconst (-1), 1) := by decide +kernel
theorem dX11_alike_127 : decode cX11_alike 127 = .ok (.ireturn, 1) := by decide +kernel
theorem dX11_child_0 : decode cX11_child 0 = .ok (.iload_n 1, 1) := by decide +kernel
theorem dX11_child_1 : decode cX11_child 1 = .ok (.iconst 0, 1) := by decide +kernel
theorem dX11_child_2 : decode cX11_child 2 = .ok (.bipush 60, 2) := by decide +kernel
theorem dX11_child_4 : decode cX11_child 4 = .ok (.invokestatic 73, 3) := by decide +kernel
theorem dX11_child_7 : decode cX11_child 7 = .ok (.ifCond .ne 6, 3) := by decide +kernel
theorem dX11_child_10 : decode cX11_child 10 = .ok (.ldc 77, 2) := by decide +kernel
theorem dX11_child_12 : decode cX11_child 12 = .ok (.ireturn, 1) := by decide +kernel
theorem dX11_child_13 : decode cX11_child 13 = .ok (.ldc2_w 277, 3) := by decide +kernel
theorem dX11_child_16 : decode cX11_child 16 = .ok (.lstore_n 2, 1) := by decide +kernel
theorem dX11_child_17 : decode cX11_child 17 = .ok (.iconst 0, 1) := by decide +kernel
theorem dX11_child_18 : decode cX11_child 18 = .ok (.istore 4, 2) := by decide +kernel
theorem dX11_child_20 : decode cX11_child 20 = .ok (.iload 4, 2) := by decide +kernel
theorem dX11_child_22 : decode cX11_child 22 = .ok (.iload_n 1, 1) := by decide +kernel
theorem dX11_child_23 : decode cX11_child 23 = .ok (.if_icmp .ge 24, 3) := by decide +kernel
theorem dX11_child_26 : decode cX11_child 26 = .ok (.lload_n 2, 1) := by decide +kernel
theorem dX11_child_27 : decode cX11_child 27 = .ok (.bipush 100, 2) := by decide +kernel
theorem dX11_child_29 : decode cX11_child 29 = .ok (.aload_n 0, 1) := by decide +kernel
theorem dX11_child_30 : decode cX11_child 30 = .ok (.getfield 142, 3) := by decide +kernel
theorem dX11_child_33 : decode cX11_child 33 = .ok (.isub, 1) := by decide +kernel
theorem dX11_child_34 : decode cX11_child 34 = .ok (.i2l, 1) := by decide +kernel
theorem dX11_child_35 : decode cX11_child 35 = .ok (.lmul, 1) := by decide +kernel
theorem dX11_child_36 : decode cX11_child 36 = .ok (.ldc2_w 279, 3) := by decide +kernel
theorem dX11_child_39 : decode cX11_child 39 = .ok (.ldiv, 1) := by decide +kernel
theorem dX11_child_40 : decode cX11_child 40 = .ok (.lstore_n 2, 1) := by decide +kernel
theorem dX11_child_41 : decode cX11_child 41 = .ok (.iinc 4 1, 3) := by decide +kernel
theorem dX11_child_44 : decode cX11_child 44 = .ok (.goto (-24), 3) := by decide +kernel
theorem dX11_child_47 : decode cX11_child 47 = .ok (.lload_n 2, 1) := by decide +kernel
theorem dX11_child_48 : decode cX11_child 48 = .ok (.l2i, 1) := by decide +kernel
theorem dX11_child_49 : decode cX11_child 49 = .ok (.ireturn, 1) := by decide +kernel
theorem dX11_write_0 : decode cX11_write 0 = .ok (.aload_n 0, 1) := by decide +kernel
theorem dX11_write_1 : decode cX11_write 1 = .ok (.iload_n 1, 1) := by decide +kernel
theorem dX11_write_2 : decode cX11_write 2 = .ok (.invokevirtual 201, 3) := by decide +kernel
theorem dX11_write_5 : decode cX11_write 5 = .ok (.ifCond .ne 6, 3) := by decide +kernel
theorem dX11_write_8 : decode cX11_write 8 = .ok (.ldc 205, 2) := by decide +kernel
theorem dX11_write_10 : decode cX11_write 10 = .ok (.ireturn, 1) := by decide +kernel
theorem dX11_write_11 : decode cX11_write 11 = .ok (.iload_n 2, 1) := by decide +kernel
theorem dX11_write_12 : decode cX11_write 12 = .ok (.iconst (-1), 1) := by decide +kernel
theorem dX11_write_13 : decode cX11_write 13 = .ok (.iconst 5, 1) := by decide +kernel
theorem dX11_write_14 : decode cX11_write 14 = .ok (.invokestatic 73, 3) := by decide +kernel
theorem dX11_write_17 : decode cX11_write 17 = .ok (.ifCond .ne 6, 3) := by decide +kernel
theorem dX11_write_20 : decode cX11_write 20 = .ok (.ldc 77, 2) := by decide +kernel
theorem dX11_write_22 : decode cX11_write 22 = .ok (.ireturn, 1) := by decide +kernel
theorem dX11_write_23 : decode cX11_write 23 = .ok (.aload_n 0, 1) := by decide +kernel
theorem dX11_write_24 : decode cX11_write 24 = .ok (.getfield 160, 3) := by decide +kernel
theorem dX11_write_27 : decode cX11_write 27 = .ok (.bipush 15, 2) := by decide +kernel
theorem dX11_write_29 : decode cX11_write 29 = .ok (.if_icmp .ne 6, 3) := by decide +kernel
theorem dX11_write_32 : decode cX11_write 32 = .ok (.ldc 81, 2) := by decide +kernel
theorem dX11_write_34 : decode cX11_write 34 = .ok (.ireturn, 1) := by decide +kernel
theorem dX11_write_35 : decode cX11_write 35 = .ok (.aload_n 0, 1) := by decide +kernel
theorem dX11_write_36 : decode cX11_write 36 = .ok (.getfield 63, 3) := by decide +kernel
theorem dX11_write_39 : decode cX11_write 39 = .ok (.aload_n 0, 1) := by decide +kernel
theorem dX11_write_40 : decode cX11_write 40 = .ok (.getfield 160, 3) := by decide +kernel
theorem dX11_write_43 : decode cX11_write 43 = .ok (.iload_n 1, 1) := by decide +kernel
theorem dX11_write_44 : decode cX11_write 44 = .ok (.iastore, 1) := by decide +kernel
theorem dX11_write_45 : decode cX11_write 45 = .ok (.aload_n 0, 1) := by decide +kernel
theorem dX11_write_46 : decode cX11_write 46 = .ok (.getfield 66, 3) := by decide +kernel
theorem dX11_write_49 : decode cX11_write 49 = .ok (.aload_n 0, 1) := by decide +kernel
theorem dX11_write_50 : decode cX11_write 50 = .ok (.getfield 160, 3) := by decide +kernel
theorem dX11_write_53 : decode cX11_write 53 = .ok (.iload_n 2, 1) := by decide +kernel
theorem dX11_write_54 : decode cX11_write 54 = .ok (.iastore, 1) := by decide +kernel
theorem dX11_write_55 : decode cX11_write 55 = .ok (.aload_n 0, 1) := by decide +kernel
theorem dX11_write_56 : decode cX11_write 56 = .ok (.dup, 1) := by decide +kernel
theorem dX11_write_57 : decode cX11_write 57 = .ok (.getfield 160, 3) := by decide +kernel
theorem dX11_write_60 : decode cX11_write 60 = .ok (.iconst 1, 1) := by decide +kernel
theorem dX11_write_61 : decode cX11_write 61 = .ok (.iadd, 1) := by decide +kernel
theorem dX11_write_62 : decode cX11_write 62 = .ok (.putfield 160, 3) := by decide +kernel
theorem dX11_write_65 : decode cX11_write 65 = .ok (.aload_n 0, 1) := by decide +kernel
theorem dX11_write_66 : decode cX11_write 66 = .ok (.getfield 160, 3) := by decide +kernel
theorem dX11_write_69 : decode cX11_write 69 = .ok (.ireturn, 1) := by decide +kernel
theorem dX11_tear_0 : decode cX11_tear 0 = .ok (.aload_n 0, 1) := by decide +kernel
theorem dX11_tear_1 : decode cX11_tear 1 = .ok (.getfield 160, 3) := by decide +kernel
theorem dX11_tear_4 : decode cX11_tear 4 = .ok (.istore_n 1, 1) := by decide +kernel
theorem dX11_tear_5 : decode cX11_tear 5 = .ok (.aload_n 0, 1) := by decide +kernel
theorem dX11_tear_6 : decode cX11_tear 6 = .ok (.iconst 0, 1) := by decide +kernel
theorem dX11_tear_7 : decode cX11_tear 7 = .ok (.putfield 160, 3) := by decide +kernel
theorem dX11_tear_10 : decode cX11_tear 10 = .ok (.iload_n 1, 1) := by decide +kernel
theorem dX11_tear_11 : decode cX11_tear 11 = .ok (.ireturn, 1) := by decide +kernel
theorem dX11_judge_0 : decode cX11_judge 0 = .ok (.iconst 0, 1) := by decide +kernel
theorem dX11_judge_1 : decode cX11_judge 1 = .ok (.istore_n 1, 1) := by decide +kernel
theorem dX11_judge_2 : decode cX11_judge 2 = .ok (.iload_n 1, 1) := by decide +kernel
theorem dX11_judge_3 : decode cX11_judge 3 = .ok (.aload_n 0, 1) := by decide +kernel
theorem dX11_judge_4 : decode cX11_judge 4 = .ok (.getfield 160, 3) := by decide +kernel
theorem dX11_judge_7 : decode cX11_judge 7 = .ok (.if_icmp .ge 30, 3) := by decide +kernel
theorem dX11_judge_10 : decode cX11_judge 10 = .ok (.aload_n 0, 1) := by decide +kernel
theorem dX11_judge_11 : decode cX11_judge 11 = .ok (.aload_n 0, 1) := by decide +kernel
theorem dX11_judge_12 : decode cX11_judge 12 = .ok (.getfield 63, 3) := by decide +kernel
theorem dX11_judge_15 : decode cX11_judge 15 = .ok (.iload_n 1, 1) := by decide +kernel
theorem dX11_judge_16 : decode cX11_judge 16 = .ok (.iaload, 1) := by decide +kernel
theorem dX11_judge_17 : decode cX11_judge 17 = .ok (.invokevirtual 189, 3) := by decide +kernel
theorem dX11_judge_20 : decode cX11_judge 20 = .ok (.aload_n 0, 1) := by decide +kernel
theorem dX11_judge_21 : decode cX11_judge 21 = .ok (.getfield 66, 3) := by decide +kernel
theorem dX11_judge_24 : decode cX11_judge 24 = .ok (.iload_n 1, 1) := by decide +kernel
theorem dX11_judge_25 : decode cX11_judge 25 = .ok (.iaload, 1) := by decide +kernel
theorem dX11_judge_26 : decode cX11_judge 26 = .ok (.if_icmp .eq 5, 3) := by decide +kernel
theorem dX11_judge_29 : decode cX11_judge 29 = .ok (.iload_n 1, 1) := by decide +kernel
theorem dX11_judge_30 : decode cX11_judge 30 = .ok (.ireturn, 1) := by decide +kernel
theorem dX11_judge_31 : decode cX11_judge 31 = .ok (.iinc 1 1, 3) := by decide +kernel
theorem dX11_judge_34 : decode cX11_judge 34 = .ok (.goto (-32), 3) := by decide +kernel
theorem dX11_judge_37 : decode cX11_judge 37 = .ok (.iconst (-1), 1) := by decide +kernel
theorem dX11_judge_38 : decode cX11_judge 38 = .ok (.ireturn, 1) := by decide +kernel
theorem dX11_seed_0 : decode cX11_seed 0 = .ok (.iload_n 1, 1) := by decide +kernel
theorem dX11_seed_1 : decode cX11_seed 1 = .ok (.ifCond .ge 6, 3) := by decide +kernel
theorem dX11_seed_4 : decode cX11_seed 4 = .ok (.ldc 77, 2) := by decide +kernel
theorem dX11_seed_6 : decode cX11_seed 6 = .ok (.ireturn, 1) := by decide +kernel
theorem dX11_seed_7 : decode cX11_seed 7 = .ok (.aload_n 0, 1) := by decide +kernel
theorem dX11_seed_8 : decode cX11_seed 8 = .ok (.getfield 236, 3) := by decide +kernel
theorem dX11_seed_11 : decode cX11_seed 11 = .ok (.istore_n 2, 1) := by decide +kernel
theorem dX11_seed_12 : decode cX11_seed 12 = .ok (.aload_n 0, 1) := by decide +kernel
theorem dX11_seed_13 : decode cX11_seed 13 = .ok (.iload_n 1, 1) := by decide +kernel
theorem dX11_seed_14 : decode cX11_seed 14 = .ok (.putfield 236, 3) := by decide +kernel
theorem dX11_seed_17 : decode cX11_seed 17 = .ok (.iload_n 2, 1) := by decide +kernel
theorem dX11_seed_18 : decode cX11_seed 18 = .ok (.ireturn, 1) := by decide +kernel
theorem dX11_keep_0 : decode cX11_keep 0 = .ok (.iload_n 1, 1) := by decide +kernel
theorem dX11_keep_1 : decode cX11_keep 1 = .ok (.iconst 0, 1) := by decide +kernel
theorem dX11_keep_2 : decode cX11_keep 2 = .ok (.iconst 1, 1) := by decide +kernel
theorem dX11_keep_3 : decode cX11_keep 3 = .ok (.invokestatic 73, 3) := by decide +kernel
theorem dX11_keep_6 : decode cX11_keep 6 = .ok (.ifCond .ne 6, 3) := by decide +kernel
theorem dX11_keep_9 : decode cX11_keep 9 = .ok (.ldc 205, 2) := by decide +kernel
theorem dX11_keep_11 : decode cX11_keep 11 = .ok (.ireturn, 1) := by decide +kernel
theorem dX11_keep_12 : decode cX11_keep 12 = .ok (.iconst 0, 1) := by decide +kernel
theorem dX11_keep_13 : decode cX11_keep 13 = .ok (.istore_n 2, 1) := by decide +kernel
theorem dX11_keep_14 : decode cX11_keep 14 = .ok (.iload_n 2, 1) := by decide +kernel
theorem dX11_keep_15 : decode cX11_keep 15 = .ok (.bipush 31, 2) := by decide +kernel
theorem dX11_keep_17 : decode cX11_keep 17 = .ok (.if_icmp .ge 26, 3) := by decide +kernel
theorem dX11_keep_20 : decode cX11_keep 20 = .ok (.aload_n 0, 1) := by decide +kernel
theorem dX11_keep_21 : decode cX11_keep 21 = .ok (.getfield 44, 3) := by decide +kernel
theorem dX11_keep_24 : decode cX11_keep 24 = .ok (.bipush 31, 2) := by decide +kernel
theorem dX11_keep_26 : decode cX11_keep 26 = .ok (.iload_n 1, 1) := by decide +kernel
theorem dX11_keep_27 : decode cX11_keep 27 = .ok (.imul, 1) := by decide +kernel
theorem dX11_keep_28 : decode cX11_keep 28 = .ok (.iload_n 2, 1) := by decide +kernel
theorem dX11_keep_29 : decode cX11_keep 29 = .ok (.iadd, 1) := by decide +kernel
theorem dX11_keep_30 : decode cX11_keep 30 = .ok (.aload_n 0, 1) := by decide +kernel
theorem dX11_keep_31 : decode cX11_keep 31 = .ok (.getfield 38, 3) := by decide +kernel
theorem dX11_keep_34 : decode cX11_keep 34 = .ok (.iload_n 2, 1) := by decide +kernel
theorem dX11_keep_35 : decode cX11_keep 35 = .ok (.iaload, 1) := by decide +kernel
theorem dX11_keep_36 : decode cX11_keep 36 = .ok (.iastore, 1) := by decide +kernel
theorem dX11_keep_37 : decode cX11_keep 37 = .ok (.iinc 2 1, 3) := by decide +kernel
theorem dX11_keep_40 : decode cX11_keep 40 = .ok (.goto (-26), 3) := by decide +kernel
theorem dX11_keep_43 : decode cX11_keep 43 = .ok (.aload_n 0, 1) := by decide +kernel
theorem dX11_keep_44 : decode cX11_keep 44 = .ok (.getfield 47, 3) := by decide +kernel
theorem dX11_keep_47 : decode cX11_keep 47 = .ok (.iload_n 1, 1) := by decide +kernel
theorem dX11_keep_48 : decode cX11_keep 48 = .ok (.aload_n 0, 1) := by decide +kernel
theorem dX11_keep_49 : decode cX11_keep 49 = .ok (.getfield 236, 3) := by decide +kernel
theorem dX11_keep_52 : decode cX11_keep 52 = .ok (.iastore, 1) := by decide +kernel
theorem dX11_keep_53 : decode cX11_keep 53 = .ok (.aload_n 0, 1) := by decide +kernel
theorem dX11_keep_54 : decode cX11_keep 54 = .ok (.getfield 50, 3) := by decide +kernel
theorem dX11_keep_57 : decode cX11_keep 57 = .ok (.iload_n 1, 1) := by decide +kernel
theorem dX11_keep_58 : decode cX11_keep 58 = .ok (.iconst 1, 1) := by decide +kernel
theorem dX11_keep_59 : decode cX11_keep 59 = .ok (.bastore, 1) := by decide +kernel
theorem dX11_keep_60 : decode cX11_keep 60 = .ok (.aload_n 0, 1) := by decide +kernel
theorem dX11_keep_61 : decode cX11_keep 61 = .ok (.iconst 0, 1) := by decide +kernel
theorem dX11_keep_62 : decode cX11_keep 62 = .ok (.putfield 157, 3) := by decide +kernel
theorem dX11_keep_65 : decode cX11_keep 65 = .ok (.iconst 1, 1) := by decide +kernel
theorem dX11_keep_66 : decode cX11_keep 66 = .ok (.ireturn, 1) := by decide +kernel
theorem dX11_goBack_0 : decode cX11_goBack 0 = .ok (.iload_n 1, 1) := by decide +kernel
theorem dX11_goBack_1 : decode cX11_goBack 1 = .ok (.iconst 0, 1) := by decide +kernel
theorem dX11_goBack_2 : decode cX11_goBack 2 = .ok (.iconst 1, 1) := by decide +kernel
theorem dX11_goBack_3 : decode cX11_goBack 3 = .ok (.invokestatic 73, 3) := by decide +kernel
theorem dX11_goBack_6 : decode cX11_goBack 6 = .ok (.ifCond .ne 6, 3) := by decide +kernel
theorem dX11_goBack_9 : decode cX11_goBack 9 = .ok (.ldc 205, 2) := by decide +kernel
theorem dX11_goBack_11 : decode cX11_goBack 11 = .ok (.ireturn, 1) := by decide +kernel
theorem dX11_goBack_12 : decode cX11_goBack 12 = .ok (.aload_n 0, 1) := by decide +kernel
theorem dX11_goBack_13 : decode cX11_goBack 13 = .ok (.getfield 50, 3) := by decide +kernel
theorem dX11_goBack_16 : decode cX11_goBack 16 = .ok (.iload_n 1, 1) := by decide +kernel
theorem dX11_goBack_17 : decode cX11_goBack 17 = .ok (.baload, 1) := by decide +kernel
theorem dX11_goBack_18 : decode cX11_goBack 18 = .ok (.ifCond .ne 6, 3) := by decide +kernel
theorem dX11_goBack_21 : decode cX11_goBack 21 = .ok (.ldc 224, 2) := by decide +kernel
theorem dX11_goBack_23 : decode cX11_goBack 23 = .ok (.ireturn, 1) := by decide +kernel
theorem dX11_goBack_24 : decode cX11_goBack 24 = .ok (.iconst 0, 1) := by decide +kernel
theorem dX11_goBack_25 : decode cX11_goBack 25 = .ok (.istore_n 2, 1) := by decide +kernel
theorem dX11_goBack_26 : decode cX11_goBack 26 = .ok (.iload_n 2, 1) := by decide +kernel
theorem dX11_goBack_27 : decode cX11_goBack 27 = .ok (.bipush 31, 2) := by decide +kernel
theorem dX11_goBack_29 : decode cX11_goBack 29 = .ok (.if_icmp .ge 26, 3) := by decide +kernel
theorem dX11_goBack_32 : decode cX11_goBack 32 = .ok (.aload_n 0, 1) := by decide +kernel
theorem dX11_goBack_33 : decode cX11_goBack 33 = .ok (.getfield 38, 3) := by decide +kernel
theorem dX11_goBack_36 : decode cX11_goBack 36 = .ok (.iload_n 2, 1) := by decide +kernel
theorem dX11_goBack_37 : decode cX11_goBack 37 = .ok (.aload_n 0, 1) := by decide +kernel
theorem dX11_goBack_38 : decode cX11_goBack 38 = .ok (.getfield 44, 3) := by decide +kernel
theorem dX11_goBack_41 : decode cX11_goBack 41 = .ok (.bipush 31, 2) := by decide +kernel
theorem dX11_goBack_43 : decode cX11_goBack 43 = .ok (.iload_n 1, 1) := by decide +kernel
theorem dX11_goBack_44 : decode cX11_goBack 44 = .ok (.imul, 1) := by decide +kernel
theorem dX11_goBack_45 : decode cX11_goBack 45 = .ok (.iload_n 2, 1) := by decide +kernel
theorem dX11_goBack_46 : decode cX11_goBack 46 = .ok (.iadd, 1) := by decide +kernel
theorem dX11_goBack_47 : decode cX11_goBack 47 = .ok (.iaload, 1) := by decide +kernel
theorem dX11_goBack_48 : decode cX11_goBack 48 = .ok (.iastore, 1) := by decide +kernel
theorem dX11_goBack_49 : decode cX11_goBack 49 = .ok (.iinc 2 1, 3) := by decide +kernel
theorem dX11_goBack_52 : decode cX11_goBack 52 = .ok (.goto (-26), 3) := by decide +kernel
theorem dX11_goBack_55 : decode cX11_goBack 55 = .ok (.aload_n 0, 1) := by decide +kernel
theorem dX11_goBack_56 : decode cX11_goBack 56 = .ok (.aload_n 0, 1) := by decide +kernel
theorem dX11_goBack_57 : decode cX11_goBack 57 = .ok (.getfield 47, 3) := by decide +kernel
theorem dX11_goBack_60 : decode cX11_goBack 60 = .ok (.iload_n 1, 1) := by decide +kernel
theorem dX11_goBack_61 : decode cX11_goBack 61 = .ok (.iaload, 1) := by decide +kernel
theorem dX11_goBack_62 : decode cX11_goBack 62 = .ok (.putfield 236, 3) := by decide +kernel
theorem dX11_goBack_65 : decode cX11_goBack 65 = .ok (.aload_n 0, 1) := by decide +kernel
theorem dX11_goBack_66 : decode cX11_goBack 66 = .ok (.iconst 0, 1) := by decide +kernel
theorem dX11_goBack_67 : decode cX11_goBack 67 = .ok (.putfield 157, 3) := by decide +kernel
theorem dX11_goBack_70 : decode cX11_goBack 70 = .ok (.iconst 1, 1) := by decide +kernel
theorem dX11_goBack_71 : decode cX11_goBack 71 = .ok (.ireturn, 1) := by decide +kernel
theorem dJ11_isValidCodePoint_9a6ad_0 : decode cJ11_isValidCodePoint_9a6ad 0 = .ok (.iload_n 0, 1) := by decide +kernel
theorem dJ11_isValidCodePoint_9a6ad_1 : decode cJ11_isValidCodePoint_9a6ad 1 = .ok (.bipush 16, 2) := by decide +kernel
theorem dJ11_isValidCodePoint_9a6ad_3 : decode cJ11_isValidCodePoint_9a6ad 3 = .ok (.iushr, 1) := by decide +kernel
theorem dJ11_isValidCodePoint_9a6ad_4 : decode cJ11_isValidCodePoint_9a6ad 4 = .ok (.istore_n 1, 1) := by decide +kernel
theorem dJ11_isValidCodePoint_9a6ad_5 : decode cJ11_isValidCodePoint_9a6ad 5 = .ok (.iload_n 1, 1) := by decide +kernel
theorem dJ11_isValidCodePoint_9a6ad_6 : decode cJ11_isValidCodePoint_9a6ad 6 = .ok (.bipush 17, 2) := by decide +kernel
theorem dJ11_isValidCodePoint_9a6ad_8 : decode cJ11_isValidCodePoint_9a6ad 8 = .ok (.if_icmp .ge 7, 3) := by decide +kernel
theorem dJ11_isValidCodePoint_9a6ad_11 : decode cJ11_isValidCodePoint_9a6ad 11 = .ok (.iconst 1, 1) := by decide +kernel
theorem dJ11_isValidCodePoint_9a6ad_12 : decode cJ11_isValidCodePoint_9a6ad 12 = .ok (.goto 4, 3) := by decide +kernel
theorem dJ11_isValidCodePoint_9a6ad_15 : decode cJ11_isValidCodePoint_9a6ad 15 = .ok (.iconst 0, 1) := by decide +kernel
theorem dJ11_isValidCodePoint_9a6ad_16 : decode cJ11_isValidCodePoint_9a6ad 16 = .ok (.ireturn, 1) := by decide +kernel
theorem dJ11_highSurrogate_5068e_0 : decode cJ11_highSurrogate_5068e 0 = .ok (.iload_n 0, 1) := by decide +kernel
theorem dJ11_highSurrogate_5068e_1 : decode cJ11_highSurrogate_5068e 1 = .ok (.bipush 10, 2) := by decide +kernel
theorem dJ11_highSurrogate_5068e_3 : decode cJ11_highSurrogate_5068e 3 = .ok (.iushr, 1) := by decide +kernel
theorem dJ11_highSurrogate_5068e_4 : decode cJ11_highSurrogate_5068e 4 = .ok (.ldc 110, 2) := by decide +kernel
theorem dJ11_highSurrogate_5068e_6 : decode cJ11_highSurrogate_5068e 6 = .ok (.iadd, 1) := by decide +kernel
theorem dJ11_highSurrogate_5068e_7 : decode cJ11_highSurrogate_5068e 7 = .ok (.i2c, 1) := by decide +kernel
theorem dJ11_highSurrogate_5068e_8 : decode cJ11_highSurrogate_5068e 8 = .ok (.ireturn, 1) := by decide +kernel
theorem dJ11_lowSurrogate_5068e_0 : decode cJ11_lowSurrogate_5068e 0 = .ok (.iload_n 0, 1) := by decide +kernel
theorem dJ11_lowSurrogate_5068e_1 : decode cJ11_lowSurrogate_5068e 1 = .ok (.sipush 1023, 3) := by decide +kernel
theorem dJ11_lowSurrogate_5068e_4 : decode cJ11_lowSurrogate_5068e 4 = .ok (.iand, 1) := by decide +kernel
theorem dJ11_lowSurrogate_5068e_5 : decode cJ11_lowSurrogate_5068e 5 = .ok (.ldc 76, 2) := by decide +kernel
theorem dJ11_lowSurrogate_5068e_7 : decode cJ11_lowSurrogate_5068e 7 = .ok (.iadd, 1) := by decide +kernel
theorem dJ11_lowSurrogate_5068e_8 : decode cJ11_lowSurrogate_5068e 8 = .ok (.i2c, 1) := by decide +kernel
theorem dJ11_lowSurrogate_5068e_9 : decode cJ11_lowSurrogate_5068e 9 = .ok (.ireturn, 1) := by decide +kernel
theorem dJ6_numberOfTrailingZeros_0f7a4_0 : decode cJ6_numberOfTrailingZeros_0f7a4 0 = .ok (.iload_n 0, 1) := by decide +kernel
theorem dJ6_numberOfTrailingZeros_0f7a4_1 : decode cJ6_numberOfTrailingZeros_0f7a4 1 = .ok (.iconst (-1), 1) := by decide +kernel
theorem dJ6_numberOfTrailingZeros_0f7a4_2 : decode cJ6_numberOfTrailingZeros_0f7a4 2 = .ok (.ixor, 1) := by decide +kernel
theorem dJ6_numberOfTrailingZeros_0f7a4_3 : decode cJ6_numberOfTrailingZeros_0f7a4 3 = .ok (.iload_n 0, 1) := by decide +kernel
theorem dJ6_numberOfTrailingZeros_0f7a4_4 : decode cJ6_numberOfTrailingZeros_0f7a4 4 = .ok (.iconst 1, 1) := by decide +kernel
theorem dJ6_numberOfTrailingZeros_0f7a4_5 : decode cJ6_numberOfTrailingZeros_0f7a4 5 = .ok (.isub, 1) := by decide +kernel
theorem dJ6_numberOfTrailingZeros_0f7a4_6 : decode cJ6_numberOfTrailingZeros_0f7a4 6 = .ok (.iand, 1) := by decide +kernel
theorem dJ6_numberOfTrailingZeros_0f7a4_7 : decode cJ6_numberOfTrailingZeros_0f7a4 7 = .ok (.istore_n 0, 1) := by decide +kernel
theorem dJ6_numberOfTrailingZeros_0f7a4_8 : decode cJ6_numberOfTrailingZeros_0f7a4 8 = .ok (.iload_n 0, 1) := by decide +kernel
theorem dJ6_numberOfTrailingZeros_0f7a4_9 : decode cJ6_numberOfTrailingZeros_0f7a4 9 = .ok (.ifCond .gt 8, 3) := by decide +kernel
theorem dJ6_numberOfTrailingZeros_0f7a4_12 : decode cJ6_numberOfTrailingZeros_0f7a4 12 = .ok (.iload_n 0, 1) := by decide +kernel
theorem dJ6_numberOfTrailingZeros_0f7a4_13 : decode cJ6_numberOfTrailingZeros_0f7a4 13 = .ok (.bipush 32, 2) := by decide +kernel
theorem dJ6_numberOfTrailingZeros_0f7a4_15 : decode cJ6_numberOfTrailingZeros_0f7a4 15 = .ok (.iand, 1) := by decide +kernel
theorem dJ6_numberOfTrailingZeros_0f7a4_16 : decode cJ6_numberOfTrailingZeros_0f7a4 16 = .ok (.ireturn, 1) := by decide +kernel
theorem dJ6_numberOfTrailingZeros_0f7a4_17 : decode cJ6_numberOfTrailingZeros_0f7a4 17 = .ok (.iconst 1, 1) := by decide +kernel
theorem dJ6_numberOfTrailingZeros_0f7a4_18 : decode cJ6_numberOfTrailingZeros_0f7a4 18 = .ok (.istore_n 1, 1) := by decide +kernel
theorem dJ6_numberOfTrailingZeros_0f7a4_19 : decode cJ6_numberOfTrailingZeros_0f7a4 19 = .ok (.iload_n 0, 1) := by decide +kernel
theorem dJ6_numberOfTrailingZeros_0f7a4_20 : decode cJ6_numberOfTrailingZeros_0f7a4 20 = .ok (.ldc_w 264, 3) := by decide +kernel
theorem dJ6_numberOfTrailingZeros_0f7a4_23 : decode cJ6_numberOfTrailingZeros_0f7a4 23 = .ok (.if_icmp .le 11, 3) := by decide +kernel
theorem dJ6_numberOfTrailingZeros_0f7a4_26 : decode cJ6_numberOfTrailingZeros_0f7a4 26 = .ok (.iinc 1 16, 3) := by decide +kernel
theorem dJ6_numberOfTrailingZeros_0f7a4_29 : decode cJ6_numberOfTrailingZeros_0f7a4 29 = .ok (.iload_n 0, 1) := by decide +kernel
theorem dJ6_numberOfTrailingZeros_0f7a4_30 : decode cJ6_numberOfTrailingZeros_0f7a4 30 = .ok (.bipush 16, 2) := by decide +kernel
theorem dJ6_numberOfTrailingZeros_0f7a4_32 : decode cJ6_numberOfTrailingZeros_0f7a4 32 = .ok (.iushr, 1) := by decide +kernel
theorem dJ6_numberOfTrailingZeros_0f7a4_33 : decode cJ6_numberOfTrailingZeros_0f7a4 33 = .ok (.istore_n 0, 1) := by decide +kernel
theorem dJ6_numberOfTrailingZeros_0f7a4_34 : decode cJ6_numberOfTrailingZeros_0f7a4 34 = .ok (.iload_n 0, 1) := by decide +kernel
theorem dJ6_numberOfTrailingZeros_0f7a4_35 : decode cJ6_numberOfTrailingZeros_0f7a4 35 = .ok (.sipush 256, 3) := by decide +kernel
theorem dJ6_numberOfTrailingZeros_0f7a4_38 : decode cJ6_numberOfTrailingZeros_0f7a4 38 = .ok (.if_icmp .le 11, 3) := by decide +kernel
theorem dJ6_numberOfTrailingZeros_0f7a4_41 : decode cJ6_numberOfTrailingZeros_0f7a4 41 = .ok (.iinc 1 8, 3) := by decide +kernel
theorem dJ6_numberOfTrailingZeros_0f7a4_44 : decode cJ6_numberOfTrailingZeros_0f7a4 44 = .ok (.iload_n 0, 1) := by decide +kernel
theorem dJ6_numberOfTrailingZeros_0f7a4_45 : decode cJ6_numberOfTrailingZeros_0f7a4 45 = .ok (.bipush 8, 2) := by decide +kernel
theorem dJ6_numberOfTrailingZeros_0f7a4_47 : decode cJ6_numberOfTrailingZeros_0f7a4 47 = .ok (.iushr, 1) := by decide +kernel
theorem dJ6_numberOfTrailingZeros_0f7a4_48 : decode cJ6_numberOfTrailingZeros_0f7a4 48 = .ok (.istore_n 0, 1) := by decide +kernel
theorem dJ6_numberOfTrailingZeros_0f7a4_49 : decode cJ6_numberOfTrailingZeros_0f7a4 49 = .ok (.iload_n 0, 1) := by decide +kernel
theorem dJ6_numberOfTrailingZeros_0f7a4_50 : decode cJ6_numberOfTrailingZeros_0f7a4 50 = .ok (.bipush 16, 2) := by decide +kernel
theorem dJ6_numberOfTrailingZeros_0f7a4_52 : decode cJ6_numberOfTrailingZeros_0f7a4 52 = .ok (.if_icmp .le 10, 3) := by decide +kernel
theorem dJ6_numberOfTrailingZeros_0f7a4_55 : decode cJ6_numberOfTrailingZeros_0f7a4 55 = .ok (.iinc 1 4, 3) := by decide +kernel
theorem dJ6_numberOfTrailingZeros_0f7a4_58 : decode cJ6_numberOfTrailingZeros_0f7a4 58 = .ok (.iload_n 0, 1) := by decide +kernel
theorem dJ6_numberOfTrailingZeros_0f7a4_59 : decode cJ6_numberOfTrailingZeros_0f7a4 59 = .ok (.iconst 4, 1) := by decide +kernel
theorem dJ6_numberOfTrailingZeros_0f7a4_60 : decode cJ6_numberOfTrailingZeros_0f7a4 60 = .ok (.iushr, 1) := by decide +kernel
theorem dJ6_numberOfTrailingZeros_0f7a4_61 : decode cJ6_numberOfTrailingZeros_0f7a4 61 = .ok (.istore_n 0, 1) := by decide +kernel
theorem dJ6_numberOfTrailingZeros_0f7a4_62 : decode cJ6_numberOfTrailingZeros_0f7a4 62 = .ok (.iload_n 0, 1) := by decide +kernel
theorem dJ6_numberOfTrailingZeros_0f7a4_63 : decode cJ6_numberOfTrailingZeros_0f7a4 63 = .ok (.iconst 4, 1) := by decide +kernel
theorem dJ6_numberOfTrailingZeros_0f7a4_64 : decode cJ6_numberOfTrailingZeros_0f7a4 64 = .ok (.if_icmp .le 10, 3) := by decide +kernel
theorem dJ6_numberOfTrailingZeros_0f7a4_67 : decode cJ6_numberOfTrailingZeros_0f7a4 67 = .ok (.iinc 1 2, 3) := by decide +kernel
theorem dJ6_numberOfTrailingZeros_0f7a4_70 : decode cJ6_numberOfTrailingZeros_0f7a4 70 = .ok (.iload_n 0, 1) := by decide +kernel
theorem dJ6_numberOfTrailingZeros_0f7a4_71 : decode cJ6_numberOfTrailingZeros_0f7a4 71 = .ok (.iconst 2, 1) := by decide +kernel
theorem dJ6_numberOfTrailingZeros_0f7a4_72 : decode cJ6_numberOfTrailingZeros_0f7a4 72 = .ok (.iushr, 1) := by decide +kernel
theorem dJ6_numberOfTrailingZeros_0f7a4_73 : decode cJ6_numberOfTrailingZeros_0f7a4 73 = .ok (.istore_n 0, 1) := by decide +kernel
theorem dJ6_numberOfTrailingZeros_0f7a4_74 : decode cJ6_numberOfTrailingZeros_0f7a4 74 = .ok (.iload_n 1, 1) := by decide +kernel
theorem dJ6_numberOfTrailingZeros_0f7a4_75 : decode cJ6_numberOfTrailingZeros_0f7a4 75 = .ok (.iload_n 0, 1) := by decide +kernel
theorem dJ6_numberOfTrailingZeros_0f7a4_76 : decode cJ6_numberOfTrailingZeros_0f7a4 76 = .ok (.iconst 1, 1) := by decide +kernel
theorem dJ6_numberOfTrailingZeros_0f7a4_77 : decode cJ6_numberOfTrailingZeros_0f7a4 77 = .ok (.iushr, 1) := by decide +kernel
theorem dJ6_numberOfTrailingZeros_0f7a4_78 : decode cJ6_numberOfTrailingZeros_0f7a4 78 = .ok (.iadd, 1) := by decide +kernel
theorem dJ6_numberOfTrailingZeros_0f7a4_79 : decode cJ6_numberOfTrailingZeros_0f7a4 79 = .ok (.ireturn, 1) := by decide +kernel
theorem dJ6_bitCount_0f7a4_0 : decode cJ6_bitCount_0f7a4 0 = .ok (.iload_n 0, 1) := by decide +kernel
theorem dJ6_bitCount_0f7a4_1 : decode cJ6_bitCount_0f7a4 1 = .ok (.iload_n 0, 1) := by decide +kernel
theorem dJ6_bitCount_0f7a4_2 : decode cJ6_bitCount_0f7a4 2 = .ok (.iconst 1, 1) := by decide +kernel
theorem dJ6_bitCount_0f7a4_3 : decode cJ6_bitCount_0f7a4 3 = .ok (.iushr, 1) := by decide +kernel
theorem dJ6_bitCount_0f7a4_4 : decode cJ6_bitCount_0f7a4 4 = .ok (.ldc_w 265, 3) := by decide +kernel
theorem dJ6_bitCount_0f7a4_7 : decode cJ6_bitCount_0f7a4 7 = .ok (.iand, 1) := by decide +kernel
theorem dJ6_bitCount_0f7a4_8 : decode cJ6_bitCount_0f7a4 8 = .ok (.isub, 1) := by decide +kernel
theorem dJ6_bitCount_0f7a4_9 : decode cJ6_bitCount_0f7a4 9 = .ok (.istore_n 0, 1) := by decide +kernel
theorem dJ6_bitCount_0f7a4_10 : decode cJ6_bitCount_0f7a4 10 = .ok (.iload_n 0, 1) := by decide +kernel
theorem dJ6_bitCount_0f7a4_11 : decode cJ6_bitCount_0f7a4 11 = .ok (.ldc_w 266, 3) := by decide +kernel
theorem dJ6_bitCount_0f7a4_14 : decode cJ6_bitCount_0f7a4 14 = .ok (.iand, 1) := by decide +kernel
theorem dJ6_bitCount_0f7a4_15 : decode cJ6_bitCount_0f7a4 15 = .ok (.iload_n 0, 1) := by decide +kernel
theorem dJ6_bitCount_0f7a4_16 : decode cJ6_bitCount_0f7a4 16 = .ok (.iconst 2, 1) := by decide +kernel
theorem dJ6_bitCount_0f7a4_17 : decode cJ6_bitCount_0f7a4 17 = .ok (.iushr, 1) := by decide +kernel
theorem dJ6_bitCount_0f7a4_18 : decode cJ6_bitCount_0f7a4 18 = .ok (.ldc_w 266, 3) := by decide +kernel
theorem dJ6_bitCount_0f7a4_21 : decode cJ6_bitCount_0f7a4 21 = .ok (.iand, 1) := by decide +kernel
theorem dJ6_bitCount_0f7a4_22 : decode cJ6_bitCount_0f7a4 22 = .ok (.iadd, 1) := by decide +kernel
theorem dJ6_bitCount_0f7a4_23 : decode cJ6_bitCount_0f7a4 23 = .ok (.istore_n 0, 1) := by decide +kernel
theorem dJ6_bitCount_0f7a4_24 : decode cJ6_bitCount_0f7a4 24 = .ok (.iload_n 0, 1) := by decide +kernel
theorem dJ6_bitCount_0f7a4_25 : decode cJ6_bitCount_0f7a4 25 = .ok (.iload_n 0, 1) := by decide +kernel
theorem dJ6_bitCount_0f7a4_26 : decode cJ6_bitCount_0f7a4 26 = .ok (.iconst 4, 1) := by decide +kernel
theorem dJ6_bitCount_0f7a4_27 : decode cJ6_bitCount_0f7a4 27 = .ok (.iushr, 1) := by decide +kernel
theorem dJ6_bitCount_0f7a4_28 : decode cJ6_bitCount_0f7a4 28 = .ok (.iadd, 1) := by decide +kernel
theorem dJ6_bitCount_0f7a4_29 : decode cJ6_bitCount_0f7a4 29 = .ok (.ldc_w 267, 3) := by decide +kernel
theorem dJ6_bitCount_0f7a4_32 : decode cJ6_bitCount_0f7a4 32 = .ok (.iand, 1) := by decide +kernel
theorem dJ6_bitCount_0f7a4_33 : decode cJ6_bitCount_0f7a4 33 = .ok (.istore_n 0, 1) := by decide +kernel
theorem dJ6_bitCount_0f7a4_34 : decode cJ6_bitCount_0f7a4 34 = .ok (.iload_n 0, 1) := by decide +kernel
theorem dJ6_bitCount_0f7a4_35 : decode cJ6_bitCount_0f7a4 35 = .ok (.iload_n 0, 1) := by decide +kernel
theorem dJ6_bitCount_0f7a4_36 : decode cJ6_bitCount_0f7a4 36 = .ok (.bipush 8, 2) := by decide +kernel
theorem dJ6_bitCount_0f7a4_38 : decode cJ6_bitCount_0f7a4 38 = .ok (.iushr, 1) := by decide +kernel
theorem dJ6_bitCount_0f7a4_39 : decode cJ6_bitCount_0f7a4 39 = .ok (.iadd, 1) := by decide +kernel
theorem dJ6_bitCount_0f7a4_40 : decode cJ6_bitCount_0f7a4 40 = .ok (.istore_n 0, 1) := by decide +kernel
theorem dJ6_bitCount_0f7a4_41 : decode cJ6_bitCount_0f7a4 41 = .ok (.iload_n 0, 1) := by decide +kernel
theorem dJ6_bitCount_0f7a4_42 : decode cJ6_bitCount_0f7a4 42 = .ok (.iload_n 0, 1) := by decide +kernel
theorem dJ6_bitCount_0f7a4_43 : decode cJ6_bitCount_0f7a4 43 = .ok (.bipush 16, 2) := by decide +kernel
theorem dJ6_bitCount_0f7a4_45 : decode cJ6_bitCount_0f7a4 45 = .ok (.iushr, 1) := by decide +kernel
theorem dJ6_bitCount_0f7a4_46 : decode cJ6_bitCount_0f7a4 46 = .ok (.iadd, 1) := by decide +kernel
theorem dJ6_bitCount_0f7a4_47 : decode cJ6_bitCount_0f7a4 47 = .ok (.istore_n 0, 1) := by decide +kernel
theorem dJ6_bitCount_0f7a4_48 : decode cJ6_bitCount_0f7a4 48 = .ok (.iload_n 0, 1) := by decide +kernel
theorem dJ6_bitCount_0f7a4_49 : decode cJ6_bitCount_0f7a4 49 = .ok (.bipush 63, 2) := by decide +kernel
theorem dJ6_bitCount_0f7a4_51 : decode cJ6_bitCount_0f7a4 51 = .ok (.iand, 1) := by decide +kernel
theorem dJ6_bitCount_0f7a4_52 : decode cJ6_bitCount_0f7a4 52 = .ok (.ireturn, 1) := by decide +kernel
theorem dJ9_abs_0f7a4_0 : decode cJ9_abs_0f7a4 0 = .ok (.iload_n 0, 1) := by decide +kernel
theorem dJ9_abs_0f7a4_1 : decode cJ9_abs_0f7a4 1 = .ok (.ifCond .ge 8, 3) := by decide +kernel
theorem dJ9_abs_0f7a4_4 : decode cJ9_abs_0f7a4 4 = .ok (.iload_n 0, 1) := by decide +kernel
theorem dJ9_abs_0f7a4_5 : decode cJ9_abs_0f7a4 5 = .ok (.ineg, 1) := by decide +kernel
theorem dJ9_abs_0f7a4_6 : decode cJ9_abs_0f7a4 6 = .ok (.goto 4, 3) := by decide +kernel
theorem dJ9_abs_0f7a4_9 : decode cJ9_abs_0f7a4 9 = .ok (.iload_n 0, 1) := by decide +kernel
theorem dJ9_abs_0f7a4_10 : decode cJ9_abs_0f7a4 10 = .ok (.ireturn, 1) := by decide +kernel
theorem dJ9_max_7cf53_0 : decode cJ9_max_7cf53 0 = .ok (.iload_n 0, 1) := by decide +kernel
theorem dJ9_max_7cf53_1 : decode cJ9_max_7cf53 1 = .ok (.iload_n 1, 1) := by decide +kernel
theorem dJ9_max_7cf53_2 : decode cJ9_max_7cf53 2 = .ok (.if_icmp .lt 7, 3) := by decide +kernel
theorem dJ9_max_7cf53_5 : decode cJ9_max_7cf53 5 = .ok (.iload_n 0, 1) := by decide +kernel
theorem dJ9_max_7cf53_6 : decode cJ9_max_7cf53 6 = .ok (.goto 4, 3) := by decide +kernel
theorem dJ9_max_7cf53_9 : decode cJ9_max_7cf53 9 = .ok (.iload_n 1, 1) := by decide +kernel
theorem dJ9_max_7cf53_10 : decode cJ9_max_7cf53 10 = .ok (.ireturn, 1) := by decide +kernel
theorem dJ9_min_7cf53_0 : decode cJ9_min_7cf53 0 = .ok (.iload_n 0, 1) := by decide +kernel
theorem dJ9_min_7cf53_1 : decode cJ9_min_7cf53 1 = .ok (.iload_n 1, 1) := by decide +kernel
theorem dJ9_min_7cf53_2 : decode cJ9_min_7cf53 2 = .ok (.if_icmp .gt 7, 3) := by decide +kernel
theorem dJ9_min_7cf53_5 : decode cJ9_min_7cf53 5 = .ok (.iload_n 0, 1) := by decide +kernel
theorem dJ9_min_7cf53_6 : decode cJ9_min_7cf53 6 = .ok (.goto 4, 3) := by decide +kernel
theorem dJ9_min_7cf53_9 : decode cJ9_min_7cf53 9 = .ok (.iload_n 1, 1) := by decide +kernel
theorem dJ9_min_7cf53_10 : decode cJ9_min_7cf53 10 = .ok (.ireturn, 1) := by decide +kernel
theorem dJ0_length_8abf5_0 : decode cJ0_length_8abf5 0 = .ok (.aload_n 0, 1) := by decide +kernel
theorem dJ0_length_8abf5_1 : decode cJ0_length_8abf5 1 = .ok (.getfield 9, 3) := by decide +kernel
theorem dJ0_length_8abf5_4 : decode cJ0_length_8abf5 4 = .ok (.arraylength, 1) := by decide +kernel
theorem dJ0_length_8abf5_5 : decode cJ0_length_8abf5 5 = .ok (.aload_n 0, 1) := by decide +kernel
theorem dJ0_length_8abf5_6 : decode cJ0_length_8abf5 6 = .ok (.invokevirtual 335, 3) := by decide +kernel
theorem dJ0_length_8abf5_9 : decode cJ0_length_8abf5 9 = .ok (.ishr, 1) := by decide +kernel
theorem dJ0_length_8abf5_10 : decode cJ0_length_8abf5 10 = .ok (.ireturn, 1) := by decide +kernel
theorem dJ0_indexOf_0f7a4_0 : decode cJ0_indexOf_0f7a4 0 = .ok (.aload_n 0, 1) := by decide +kernel
theorem dJ0_indexOf_0f7a4_1 : decode cJ0_indexOf_0f7a4 1 = .ok (.iload_n 1, 1) := by decide +kernel
theorem dJ0_indexOf_0f7a4_2 : decode cJ0_indexOf_0f7a4 2 = .ok (.iconst 0, 1) := by decide +kernel
theorem dJ0_indexOf_0f7a4_3 : decode cJ0_indexOf_0f7a4 3 = .ok (.invokevirtual 633, 3) := by decide +kernel
theorem dJ0_indexOf_0f7a4_6 : decode cJ0_indexOf_0f7a4 6 = .ok (.ireturn, 1) := by decide +kernel
theorem dJ0_indexOf_7cf53_0 : decode cJ0_indexOf_7cf53 0 = .ok (.aload_n 0, 1) := by decide +kernel
theorem dJ0_indexOf_7cf53_1 : decode cJ0_indexOf_7cf53 1 = .ok (.invokevirtual 492, 3) := by decide +kernel
theorem dJ0_indexOf_7cf53_4 : decode cJ0_indexOf_7cf53 4 = .ok (.ifCond .eq 19, 3) := by decide +kernel
theorem dJ0_indexOf_7cf53_7 : decode cJ0_indexOf_7cf53 7 = .ok (.aload_n 0, 1) := by decide +kernel
theorem dJ0_indexOf_7cf53_8 : decode cJ0_indexOf_7cf53 8 = .ok (.getfield 9, 3) := by decide +kernel
theorem dJ0_indexOf_7cf53_11 : decode cJ0_indexOf_7cf53 11 = .ok (.iload_n 1, 1) := by decide +kernel
theorem dJ0_indexOf_7cf53_12 : decode cJ0_indexOf_7cf53 12 = .ok (.iload_n 2, 1) := by decide +kernel
theorem dJ0_indexOf_7cf53_13 : decode cJ0_indexOf_7cf53 13 = .ok (.aload_n 0, 1) := by decide +kernel
theorem dJ0_indexOf_7cf53_14 : decode cJ0_indexOf_7cf53 14 = .ok (.invokevirtual 505, 3) := by decide +kernel
theorem dJ0_indexOf_7cf53_17 : decode cJ0_indexOf_7cf53 17 = .ok (.invokestatic 637, 3) := by decide +kernel
theorem dJ0_indexOf_7cf53_20 : decode cJ0_indexOf_7cf53 20 = .ok (.goto 16, 3) := by decide +kernel
theorem dJ0_indexOf_7cf53_23 : decode cJ0_indexOf_7cf53 23 = .ok (.aload_n 0, 1) := by decide +kernel
theorem dJ0_indexOf_7cf53_24 : decode cJ0_indexOf_7cf53 24 = .ok (.getfield 9, 3) := by decide +kernel
theorem dJ0_indexOf_7cf53_27 : decode cJ0_indexOf_7cf53 27 = .ok (.iload_n 1, 1) := by decide +kernel
theorem dJ0_indexOf_7cf53_28 : decode cJ0_indexOf_7cf53 28 = .ok (.iload_n 2, 1) := by decide +kernel
theorem dJ0_indexOf_7cf53_29 : decode cJ0_indexOf_7cf53 29 = .ok (.aload_n 0, 1) := by decide +kernel
theorem dJ0_indexOf_7cf53_30 : decode cJ0_indexOf_7cf53 30 = .ok (.invokevirtual 505, 3) := by decide +kernel
theorem dJ0_indexOf_7cf53_33 : decode cJ0_indexOf_7cf53 33 = .ok (.invokestatic 640, 3) := by decide +kernel
theorem dJ0_indexOf_7cf53_36 : decode cJ0_indexOf_7cf53 36 = .ok (.ireturn, 1) := by decide +kernel
theorem dJ0_coder_7d493_0 : decode cJ0_coder_7d493 0 = .ok (.getstatic 38, 3) := by decide +kernel
theorem dJ0_coder_7d493_3 : decode cJ0_coder_7d493 3 = .ok (.ifCond .eq 10, 3) := by decide +kernel
theorem dJ0_coder_7d493_6 : decode cJ0_coder_7d493 6 = .ok (.aload_n 0, 1) := by decide +kernel
theorem dJ0_coder_7d493_7 : decode cJ0_coder_7d493 7 = .ok (.getfield 15, 3) := by decide +kernel
theorem dJ0_coder_7d493_10 : decode cJ0_coder_7d493 10 = .ok (.goto 4, 3) := by decide +kernel
theorem dJ0_coder_7d493_13 : decode cJ0_coder_7d493 13 = .ok (.iconst 1, 1) := by decide +kernel
theorem dJ0_coder_7d493_14 : decode cJ0_coder_7d493 14 = .ok (.ireturn, 1) := by decide +kernel
theorem dJ0_isLatin1_aae02_0 : decode cJ0_isLatin1_aae02 0 = .ok (.getstatic 38, 3) := by decide +kernel
theorem dJ0_isLatin1_aae02_3 : decode cJ0_isLatin1_aae02 3 = .ok (.ifCond .eq 14, 3) := by decide +kernel
theorem dJ0_isLatin1_aae02_6 : decode cJ0_isLatin1_aae02 6 = .ok (.aload_n 0, 1) := by decide +kernel
theorem dJ0_isLatin1_aae02_7 : decode cJ0_isLatin1_aae02 7 = .ok (.getfield 15, 3) := by decide +kernel
theorem dJ0_isLatin1_aae02_10 : decode cJ0_isLatin1_aae02 10 = .ok (.ifCond .ne 7, 3) := by decide +kernel
theorem dJ0_isLatin1_aae02_13 : decode cJ0_isLatin1_aae02 13 = .ok (.iconst 1, 1) := by decide +kernel
theorem dJ0_isLatin1_aae02_14 : decode cJ0_isLatin1_aae02 14 = .ok (.goto 4, 3) := by decide +kernel
theorem dJ0_isLatin1_aae02_17 : decode cJ0_isLatin1_aae02 17 = .ok (.iconst 0, 1) := by decide +kernel
theorem dJ0_isLatin1_aae02_18 : decode cJ0_isLatin1_aae02 18 = .ok (.ireturn, 1) := by decide +kernel
theorem dJ0_checkBoundsBeginEnd_23922_0 : decode cJ0_checkBoundsBeginEnd_23922 0 = .ok (.iload_n 0, 1) := by decide +kernel
theorem dJ0_checkBoundsBeginEnd_23922_1 : decode cJ0_checkBoundsBeginEnd_23922 1 = .ok (.iload_n 1, 1) := by decide +kernel
theorem dJ0_checkBoundsBeginEnd_23922_2 : decode cJ0_checkBoundsBeginEnd_23922 2 = .ok (.iload_n 2, 1) := by decide +kernel
theorem dJ0_checkBoundsBeginEnd_23922_3 : decode cJ0_checkBoundsBeginEnd_23922 3 = .ok (.getstatic 1053, 3) := by decide +kernel
theorem dJ0_checkBoundsBeginEnd_23922_6 : decode cJ0_checkBoundsBeginEnd_23922 6 = .ok (.invokestatic 1062, 3) := by decide +kernel
theorem dJ0_checkBoundsBeginEnd_23922_9 : decode cJ0_checkBoundsBeginEnd_23922 9 = .ok (.pop, 1) := by decide +kernel
theorem dJ0_checkBoundsBeginEnd_23922_10 : decode cJ0_checkBoundsBeginEnd_23922 10 = .ok (.return_, 1) := by decide +kernel
theorem dJ1_canEncode_9a6ad_0 : decode cJ1_canEncode_9a6ad 0 = .ok (.iload_n 0, 1) := by decide +kernel
theorem dJ1_canEncode_9a6ad_1 : decode cJ1_canEncode_9a6ad 1 = .ok (.ifCond .lt 14, 3) := by decide +kernel
theorem dJ1_canEncode_9a6ad_4 : decode cJ1_canEncode_9a6ad 4 = .ok (.iload_n 0, 1) := by decide +kernel
theorem dJ1_canEncode_9a6ad_5 : decode cJ1_canEncode_9a6ad 5 = .ok (.sipush 255, 3) := by decide +kernel
theorem dJ1_canEncode_9a6ad_8 : decode cJ1_canEncode_9a6ad 8 = .ok (.if_icmp .gt 7, 3) := by decide +kernel
theorem dJ1_canEncode_9a6ad_11 : decode cJ1_canEncode_9a6ad 11 = .ok (.iconst 1, 1) := by decide +kernel
theorem dJ1_canEncode_9a6ad_12 : decode cJ1_canEncode_9a6ad 12 = .ok (.goto 4, 3) := by decide +kernel
theorem dJ1_canEncode_9a6ad_15 : decode cJ1_canEncode_9a6ad 15 = .ok (.iconst 0, 1) := by decide +kernel
theorem dJ1_canEncode_9a6ad_16 : decode cJ1_canEncode_9a6ad 16 = .ok (.ireturn, 1) := by decide +kernel
theorem dJ1_indexOf_4cfef_0 : decode cJ1_indexOf_4cfef 0 = .ok (.iload_n 1, 1) := by decide +kernel
theorem dJ1_indexOf_4cfef_1 : decode cJ1_indexOf_4cfef 1 = .ok (.invokestatic 88, 3) := by decide +kernel
theorem dJ1_indexOf_4cfef_4 : decode cJ1_indexOf_4cfef 4 = .ok (.ifCond .ne 5, 3) := by decide +kernel
theorem dJ1_indexOf_4cfef_7 : decode cJ1_indexOf_4cfef 7 = .ok (.iconst (-1), 1) := by decide +kernel
theorem dJ1_indexOf_4cfef_8 : decode cJ1_indexOf_4cfef 8 = .ok (.ireturn, 1) := by decide +kernel
theorem dJ1_indexOf_4cfef_9 : decode cJ1_indexOf_4cfef 9 = .ok (.iload_n 2, 1) := by decide +kernel
theorem dJ1_indexOf_4cfef_10 : decode cJ1_indexOf_4cfef 10 = .ok (.iconst 0, 1) := by decide +kernel
theorem dJ1_indexOf_4cfef_11 : decode cJ1_indexOf_4cfef 11 = .ok (.invokestatic 92, 3) := by decide +kernel
theorem dJ1_indexOf_4cfef_14 : decode cJ1_indexOf_4cfef 14 = .ok (.istore_n 2, 1) := by decide +kernel
theorem dJ1_indexOf_4cfef_15 : decode cJ1_indexOf_4cfef 15 = .ok (.iload_n 3, 1) := by decide +kernel
theorem dJ1_indexOf_4cfef_16 : decode cJ1_indexOf_4cfef 16 = .ok (.aload_n 0, 1) := by decide +kernel
theorem dJ1_indexOf_4cfef_17 : decode cJ1_indexOf_4cfef 17 = .ok (.arraylength, 1) := by decide +kernel
theorem dJ1_indexOf_4cfef_18 : decode cJ1_indexOf_4cfef 18 = .ok (.invokestatic 38, 3) := by decide +kernel
theorem dJ1_indexOf_4cfef_21 : decode cJ1_indexOf_4cfef 21 = .ok (.istore_n 3, 1) := by decide +kernel
theorem dJ1_indexOf_4cfef_22 : decode cJ1_indexOf_4cfef 22 = .ok (.iload_n 2, 1) := by decide +kernel
theorem dJ1_indexOf_4cfef_23 : decode cJ1_indexOf_4cfef 23 = .ok (.iload_n 3, 1) := by decide +kernel
theorem dJ1_indexOf_4cfef_24 : decode cJ1_indexOf_4cfef 24 = .ok (.if_icmp .lt 5, 3) := by decide +kernel
theorem dJ1_indexOf_4cfef_27 : decode cJ1_indexOf_4cfef 27 = .ok (.iconst (-1), 1) := by decide +kernel
theorem dJ1_indexOf_4cfef_28 : decode cJ1_indexOf_4cfef 28 = .ok (.ireturn, 1) := by decide +kernel
theorem dJ1_indexOf_4cfef_29 : decode cJ1_indexOf_4cfef 29 = .ok (.aload_n 0, 1) := by decide +kernel
theorem dJ1_indexOf_4cfef_30 : decode cJ1_indexOf_4cfef 30 = .ok (.iload_n 1, 1) := by decide +kernel
theorem dJ1_indexOf_4cfef_31 : decode cJ1_indexOf_4cfef 31 = .ok (.iload_n 2, 1) := by decide +kernel
theorem dJ1_indexOf_4cfef_32 : decode cJ1_indexOf_4cfef 32 = .ok (.iload_n 3, 1) := by decide +kernel
theorem dJ1_indexOf_4cfef_33 : decode cJ1_indexOf_4cfef 33 = .ok (.invokestatic 95, 3) := by decide +kernel
theorem dJ1_indexOf_4cfef_36 : decode cJ1_indexOf_4cfef 36 = .ok (.ireturn, 1) := by decide +kernel
theorem dJ1_indexOfChar_4cfef_0 : decode cJ1_indexOfChar_4cfef 0 = .ok (.iload_n 1, 1) := by decide +kernel
theorem dJ1_indexOfChar_4cfef_1 : decode cJ1_indexOfChar_4cfef 1 = .ok (.i2b, 1) := by decide +kernel
theorem dJ1_indexOfChar_4cfef_2 : decode cJ1_indexOfChar_4cfef 2 = .ok (.istore 4, 2) := by decide +kernel
theorem dJ1_indexOfChar_4cfef_4 : decode cJ1_indexOfChar_4cfef 4 = .ok (.iload_n 2, 1) := by decide +kernel
theorem dJ1_indexOfChar_4cfef_5 : decode cJ1_indexOfChar_4cfef 5 = .ok (.istore 5, 2) := by decide +kernel
theorem dJ1_indexOfChar_4cfef_7 : decode cJ1_indexOfChar_4cfef 7 = .ok (.iload 5, 2) := by decide +kernel
theorem dJ1_indexOfChar_4cfef_9 : decode cJ1_indexOfChar_4cfef 9 = .ok (.iload_n 3, 1) := by decide +kernel
theorem dJ1_indexOfChar_4cfef_10 : decode cJ1_indexOfChar_4cfef 10 = .ok (.if_icmp .ge 21, 3) := by decide +kernel
theorem dJ1_indexOfChar_4cfef_13 : decode cJ1_indexOfChar_4cfef 13 = .ok (.aload_n 0, 1) := by decide +kernel
theorem dJ1_indexOfChar_4cfef_14 : decode cJ1_indexOfChar_4cfef 14 = .ok (.iload 5, 2) := by decide +kernel
theorem dJ1_indexOfChar_4cfef_16 : decode cJ1_indexOfChar_4cfef 16 = .ok (.baload, 1) := by decide +kernel
theorem dJ1_indexOfChar_4cfef_17 : decode cJ1_indexOfChar_4cfef 17 = .ok (.iload 4, 2) := by decide +kernel
theorem dJ1_indexOfChar_4cfef_19 : decode cJ1_indexOfChar_4cfef 19 = .ok (.if_icmp .ne 6, 3) := by decide +kernel
theorem dJ1_indexOfChar_4cfef_22 : decode cJ1_indexOfChar_4cfef 22 = .ok (.iload 5, 2) := by decide +kernel
theorem dJ1_indexOfChar_4cfef_24 : decode cJ1_indexOfChar_4cfef 24 = .ok (.ireturn, 1) := by decide +kernel
theorem dJ1_indexOfChar_4cfef_25 : decode cJ1_indexOfChar_4cfef 25 = .ok (.iinc 5 1, 3) := by decide +kernel
theorem dJ1_indexOfChar_4cfef_28 : decode cJ1_indexOfChar_4cfef 28 = .ok (.goto (-21), 3) := by decide +kernel
theorem dJ1_indexOfChar_4cfef_31 : decode cJ1_indexOfChar_4cfef 31 = .ok (.iconst (-1), 1) := by decide +kernel
theorem dJ1_indexOfChar_4cfef_32 : decode cJ1_indexOfChar_4cfef 32 = .ok (.ireturn, 1) := by decide +kernel
theorem dJ2_getChar_3b067_0 : decode cJ2_getChar_3b067 0 = .ok (.getstatic 44, 3) := by decide +kernel
theorem dJ2_getChar_3b067_3 : decode cJ2_getChar_3b067 3 = .ok (.ifCond .ne 25, 3) := by decide +kernel
theorem dJ2_getChar_3b067_6 : decode cJ2_getChar_3b067 6 = .ok (.iload_n 1, 1) := by decide +kernel
theorem dJ2_getChar_3b067_7 : decode cJ2_getChar_3b067 7 = .ok (.ifCond .lt 11, 3) := by decide +kernel
theorem dJ2_getChar_3b067_10 : decode cJ2_getChar_3b067 10 = .ok (.iload_n 1, 1) := by decide +kernel
theorem dJ2_getChar_3b067_11 : decode cJ2_getChar_3b067 11 = .ok (.aload_n 0, 1) := by decide +kernel
theorem dJ2_getChar_3b067_12 : decode cJ2_getChar_3b067 12 = .ok (.invokestatic 48, 3) := by decide +kernel
theorem dJ2_getChar_3b067_15 : decode cJ2_getChar_3b067 15 = .ok (.if_icmp .lt 13, 3) := by decide +kernel
theorem dJ2_getChar_3b067_18 : decode cJ2_getChar_3b067 18 = .ok (.new 52, 3) := by decide +kernel
theorem dJ2_getChar_3b067_21 : decode cJ2_getChar_3b067 21 = .ok (.dup, 1) := by decide +kernel
theorem dJ2_getChar_3b067_22 : decode cJ2_getChar_3b067 22 = .ok (.ldc 54, 2) := by decide +kernel
theorem dJ2_getChar_3b067_24 : decode cJ2_getChar_3b067 24 = .ok (.invokespecial 56, 3) := by decide +kernel
theorem dJ2_getChar_3b067_27 : decode cJ2_getChar_3b067 27 = .ok (.athrow, 1) := by decide +kernel
theorem dJ2_getChar_3b067_28 : decode cJ2_getChar_3b067 28 = .ok (.iload_n 1, 1) := by decide +kernel
theorem dJ2_getChar_3b067_29 : decode cJ2_getChar_3b067 29 = .ok (.iconst 1, 1) := by decide +kernel
theorem dJ2_getChar_3b067_30 : decode cJ2_getChar_3b067 30 = .ok (.ishl, 1) := by decide +kernel
theorem dJ2_getChar_3b067_31 : decode cJ2_getChar_3b067 31 = .ok (.istore_n 1, 1) := by decide +kernel
theorem dJ2_getChar_3b067_32 : decode cJ2_getChar_3b067 32 = .ok (.aload_n 0, 1) := by decide +kernel
theorem dJ2_getChar_3b067_33 : decode cJ2_getChar_3b067 33 = .ok (.iload_n 1, 1) := by decide +kernel
theorem dJ2_getChar_3b067_34 : decode cJ2_getChar_3b067 34 = .ok (.iinc 1 1, 3) := by decide +kernel
theorem dJ2_getChar_3b067_37 : decode cJ2_getChar_3b067 37 = .ok (.baload, 1) := by decide +kernel
theorem dJ2_getChar_3b067_38 : decode cJ2_getChar_3b067 38 = .ok (.sipush 255, 3) := by decide +kernel
theorem dJ2_getChar_3b067_41 : decode cJ2_getChar_3b067 41 = .ok (.iand, 1) := by decide +kernel
theorem dJ2_getChar_3b067_42 : decode cJ2_getChar_3b067 42 = .ok (.getstatic 59, 3) := by decide +kernel
theorem dJ2_getChar_3b067_45 : decode cJ2_getChar_3b067 45 = .ok (.ishl, 1) := by decide +kernel
theorem dJ2_getChar_3b067_46 : decode cJ2_getChar_3b067 46 = .ok (.aload_n 0, 1) := by decide +kernel
theorem dJ2_getChar_3b067_47 : decode cJ2_getChar_3b067 47 = .ok (.iload_n 1, 1) := by decide +kernel
theorem dJ2_getChar_3b067_48 : decode cJ2_getChar_3b067 48 = .ok (.baload, 1) := by decide +kernel
theorem dJ2_getChar_3b067_49 : decode cJ2_getChar_3b067 49 = .ok (.sipush 255, 3) := by decide +kernel
theorem dJ2_getChar_3b067_52 : decode cJ2_getChar_3b067 52 = .ok (.iand, 1) := by decide +kernel
theorem dJ2_getChar_3b067_53 : decode cJ2_getChar_3b067 53 = .ok (.getstatic 63, 3) := by decide +kernel
theorem dJ2_getChar_3b067_56 : decode cJ2_getChar_3b067 56 = .ok (.ishl, 1) := by decide +kernel
theorem dJ2_getChar_3b067_57 : decode cJ2_getChar_3b067 57 = .ok (.ior, 1) := by decide +kernel
theorem dJ2_getChar_3b067_58 : decode cJ2_getChar_3b067 58 = .ok (.i2c, 1) := by decide +kernel
theorem dJ2_getChar_3b067_59 : decode cJ2_getChar_3b067 59 = .ok (.ireturn, 1) := by decide +kernel
theorem dJ2_length_9d52b_0 : decode cJ2_length_9d52b 0 = .ok (.aload_n 0, 1) := by decide +kernel
theorem dJ2_length_9d52b_1 : decode cJ2_length_9d52b 1 = .ok (.arraylength, 1) := by decide +kernel
theorem dJ2_length_9d52b_2 : decode cJ2_length_9d52b 2 = .ok (.iconst 1, 1) := by decide +kernel
theorem dJ2_length_9d52b_3 : decode cJ2_length_9d52b 3 = .ok (.ishr, 1) := by decide +kernel
theorem dJ2_length_9d52b_4 : decode cJ2_length_9d52b 4 = .ok (.ireturn, 1) := by decide +kernel
theorem dJ2_indexOf_4cfef_0 : decode cJ2_indexOf_4cfef 0 = .ok (.iload_n 2, 1) := by decide +kernel
theorem dJ2_indexOf_4cfef_1 : decode cJ2_indexOf_4cfef 1 = .ok (.iconst 0, 1) := by decide +kernel
theorem dJ2_indexOf_4cfef_2 : decode cJ2_indexOf_4cfef 2 = .ok (.invokestatic 224, 3) := by decide +kernel
theorem dJ2_indexOf_4cfef_5 : decode cJ2_indexOf_4cfef 5 = .ok (.istore_n 2, 1) := by decide +kernel
theorem dJ2_indexOf_4cfef_6 : decode cJ2_indexOf_4cfef 6 = .ok (.iload_n 3, 1) := by decide +kernel
theorem dJ2_indexOf_4cfef_7 : decode cJ2_indexOf_4cfef 7 = .ok (.aload_n 0, 1) := by decide +kernel
theorem dJ2_indexOf_4cfef_8 : decode cJ2_indexOf_4cfef 8 = .ok (.arraylength, 1) := by decide +kernel
theorem dJ2_indexOf_4cfef_9 : decode cJ2_indexOf_4cfef 9 = .ok (.iconst 1, 1) := by decide +kernel
theorem dJ2_indexOf_4cfef_10 : decode cJ2_indexOf_4cfef 10 = .ok (.ishr, 1) := by decide +kernel
theorem dJ2_indexOf_4cfef_11 : decode cJ2_indexOf_4cfef 11 = .ok (.invokestatic 183, 3) := by decide +kernel
theorem dJ2_indexOf_4cfef_14 : decode cJ2_indexOf_4cfef 14 = .ok (.istore_n 3, 1) := by decide +kernel
theorem dJ2_indexOf_4cfef_15 : decode cJ2_indexOf_4cfef 15 = .ok (.iload_n 2, 1) := by decide +kernel
theorem dJ2_indexOf_4cfef_16 : decode cJ2_indexOf_4cfef 16 = .ok (.iload_n 3, 1) := by decide +kernel
theorem dJ2_indexOf_4cfef_17 : decode cJ2_indexOf_4cfef 17 = .ok (.if_icmp .lt 5, 3) := by decide +kernel
theorem dJ2_indexOf_4cfef_20 : decode cJ2_indexOf_4cfef 20 = .ok (.iconst (-1), 1) := by decide +kernel
theorem dJ2_indexOf_4cfef_21 : decode cJ2_indexOf_4cfef 21 = .ok (.ireturn, 1) := by decide +kernel
theorem dJ2_indexOf_4cfef_22 : decode cJ2_indexOf_4cfef 22 = .ok (.iload_n 1, 1) := by decide +kernel
theorem dJ2_indexOf_4cfef_23 : decode cJ2_indexOf_4cfef 23 = .ok (.ldc 227, 2) := by decide +kernel
theorem dJ2_indexOf_4cfef_25 : decode cJ2_indexOf_4cfef 25 = .ok (.if_icmp .ge 11, 3) := by decide +kernel
theorem dJ2_indexOf_4cfef_28 : decode cJ2_indexOf_4cfef 28 = .ok (.aload_n 0, 1) := by decide +kernel
theorem dJ2_indexOf_4cfef_29 : decode cJ2_indexOf_4cfef 29 = .ok (.iload_n 1, 1) := by decide +kernel
theorem dJ2_indexOf_4cfef_30 : decode cJ2_indexOf_4cfef 30 = .ok (.iload_n 2, 1) := by decide +kernel
theorem dJ2_indexOf_4cfef_31 : decode cJ2_indexOf_4cfef 31 = .ok (.iload_n 3, 1) := by decide +kernel
theorem dJ2_indexOf_4cfef_32 : decode cJ2_indexOf_4cfef 32 = .ok (.invokestatic 228, 3) := by decide +kernel
theorem dJ2_indexOf_4cfef_35 : decode cJ2_indexOf_4cfef 35 = .ok (.ireturn, 1) := by decide +kernel
theorem dJ2_indexOf_4cfef_36 : decode cJ2_indexOf_4cfef 36 = .ok (.aload_n 0, 1) := by decide +kernel
theorem dJ2_indexOf_4cfef_37 : decode cJ2_indexOf_4cfef 37 = .ok (.iload_n 1, 1) := by decide +kernel
theorem dJ2_indexOf_4cfef_38 : decode cJ2_indexOf_4cfef 38 = .ok (.iload_n 2, 1) := by decide +kernel
theorem dJ2_indexOf_4cfef_39 : decode cJ2_indexOf_4cfef 39 = .ok (.iload_n 3, 1) := by decide +kernel
theorem dJ2_indexOf_4cfef_40 : decode cJ2_indexOf_4cfef 40 = .ok (.invokestatic 232, 3) := by decide +kernel
theorem dJ2_indexOf_4cfef_43 : decode cJ2_indexOf_4cfef 43 = .ok (.ireturn, 1) := by decide +kernel
theorem dJ2_indexOfChar_4cfef_0 : decode cJ2_indexOfChar_4cfef 0 = .ok (.iload_n 2, 1) := by decide +kernel
theorem dJ2_indexOfChar_4cfef_1 : decode cJ2_indexOfChar_4cfef 1 = .ok (.iload_n 3, 1) := by decide +kernel
theorem dJ2_indexOfChar_4cfef_2 : decode cJ2_indexOfChar_4cfef 2 = .ok (.aload_n 0, 1) := by decide +kernel
theorem dJ2_indexOfChar_4cfef_3 : decode cJ2_indexOfChar_4cfef 3 = .ok (.invokestatic 96, 3) := by decide +kernel
theorem dJ2_indexOfChar_4cfef_6 : decode cJ2_indexOfChar_4cfef 6 = .ok (.aload_n 0, 1) := by decide +kernel
theorem dJ2_indexOfChar_4cfef_7 : decode cJ2_indexOfChar_4cfef 7 = .ok (.iload_n 1, 1) := by decide +kernel
theorem dJ2_indexOfChar_4cfef_8 : decode cJ2_indexOfChar_4cfef 8 = .ok (.iload_n 2, 1) := by decide +kernel
theorem dJ2_indexOfChar_4cfef_9 : decode cJ2_indexOfChar_4cfef 9 = .ok (.iload_n 3, 1) := by decide +kernel
theorem dJ2_indexOfChar_4cfef_10 : decode cJ2_indexOfChar_4cfef 10 = .ok (.invokestatic 244, 3) := by decide +kernel
theorem dJ2_indexOfChar_4cfef_13 : decode cJ2_indexOfChar_4cfef 13 = .ok (.ireturn, 1) := by decide +kernel
theorem dJ2_indexOfCharUnsafe_4cfef_0 : decode cJ2_indexOfCharUnsafe_4cfef 0 = .ok (.iload_n 2, 1) := by decide +kernel
theorem dJ2_indexOfCharUnsafe_4cfef_1 : decode cJ2_indexOfCharUnsafe_4cfef 1 = .ok (.istore 4, 2) := by decide +kernel
theorem dJ2_indexOfCharUnsafe_4cfef_3 : decode cJ2_indexOfCharUnsafe_4cfef 3 = .ok (.iload 4, 2) := by decide +kernel
theorem dJ2_indexOfCharUnsafe_4cfef_5 : decode cJ2_indexOfCharUnsafe_4cfef 5 = .ok (.iload_n 3, 1) := by decide +kernel
theorem dJ2_indexOfCharUnsafe_4cfef_6 : decode cJ2_indexOfCharUnsafe_4cfef 6 = .ok (.if_icmp .ge 22, 3) := by decide +kernel
theorem dJ2_indexOfCharUnsafe_4cfef_9 : decode cJ2_indexOfCharUnsafe_4cfef 9 = .ok (.aload_n 0, 1) := by decide +kernel
theorem dJ2_indexOfCharUnsafe_4cfef_10 : decode cJ2_indexOfCharUnsafe_4cfef 10 = .ok (.iload 4, 2) := by decide +kernel
theorem dJ2_indexOfCharUnsafe_4cfef_12 : decode cJ2_indexOfCharUnsafe_4cfef 12 = .ok (.invokestatic 71, 3) := by decide +kernel
theorem dJ2_indexOfCharUnsafe_4cfef_15 : decode cJ2_indexOfCharUnsafe_4cfef 15 = .ok (.iload_n 1, 1) := by decide +kernel
theorem dJ2_indexOfCharUnsafe_4cfef_16 : decode cJ2_indexOfCharUnsafe_4cfef 16 = .ok (.if_icmp .ne 6, 3) := by decide +kernel
theorem dJ2_indexOfCharUnsafe_4cfef_19 : decode cJ2_indexOfCharUnsafe_4cfef 19 = .ok (.iload 4, 2) := by decide +kernel
theorem dJ2_indexOfCharUnsafe_4cfef_21 : decode cJ2_indexOfCharUnsafe_4cfef 21 = .ok (.ireturn, 1) := by decide +kernel
theorem dJ2_indexOfCharUnsafe_4cfef_22 : decode cJ2_indexOfCharUnsafe_4cfef 22 = .ok (.iinc 4 1, 3) := by decide +kernel
theorem dJ2_indexOfCharUnsafe_4cfef_25 : decode cJ2_indexOfCharUnsafe_4cfef 25 = .ok (.goto (-22), 3) := by decide +kernel
theorem dJ2_indexOfCharUnsafe_4cfef_28 : decode cJ2_indexOfCharUnsafe_4cfef 28 = .ok (.iconst (-1), 1) := by decide +kernel
theorem dJ2_indexOfCharUnsafe_4cfef_29 : decode cJ2_indexOfCharUnsafe_4cfef 29 = .ok (.ireturn, 1) := by decide +kernel
theorem dJ2_indexOfSupplementary_4cfef_0 : decode cJ2_indexOfSupplementary_4cfef 0 = .ok (.iload_n 1, 1) := by decide +kernel
theorem dJ2_indexOfSupplementary_4cfef_1 : decode cJ2_indexOfSupplementary_4cfef 1 = .ok (.invokestatic 164, 3) := by decide +kernel
theorem dJ2_indexOfSupplementary_4cfef_4 : decode cJ2_indexOfSupplementary_4cfef 4 = .ok (.ifCond .eq 65, 3) := by decide +kernel
theorem dJ2_indexOfSupplementary_4cfef_7 : decode cJ2_indexOfSupplementary_4cfef 7 = .ok (.iload_n 1, 1) := by decide +kernel
theorem dJ2_indexOfSupplementary_4cfef_8 : decode cJ2_indexOfSupplementary_4cfef 8 = .ok (.invokestatic 157, 3) := by decide +kernel
theorem dJ2_indexOfSupplementary_4cfef_11 : decode cJ2_indexOfSupplementary_4cfef 11 = .ok (.istore 4, 2) := by decide +kernel
theorem dJ2_indexOfSupplementary_4cfef_13 : decode cJ2_indexOfSupplementary_4cfef 13 = .ok (.iload_n 1, 1) := by decide +kernel
theorem dJ2_indexOfSupplementary_4cfef_14 : decode cJ2_indexOfSupplementary_4cfef 14 = .ok (.invokestatic 161, 3) := by decide +kernel
theorem dJ2_indexOfSupplementary_4cfef_17 : decode cJ2_indexOfSupplementary_4cfef 17 = .ok (.istore 5, 2) := by decide +kernel
theorem dJ2_indexOfSupplementary_4cfef_19 : decode cJ2_indexOfSupplementary_4cfef 19 = .ok (.iload_n 2, 1) := by decide +kernel
theorem dJ2_indexOfSupplementary_4cfef_20 : decode cJ2_indexOfSupplementary_4cfef 20 = .ok (.iload_n 3, 1) := by decide +kernel
theorem dJ2_indexOfSupplementary_4cfef_21 : decode cJ2_indexOfSupplementary_4cfef 21 = .ok (.aload_n 0, 1) := by decide +kernel
theorem dJ2_indexOfSupplementary_4cfef_22 : decode cJ2_indexOfSupplementary_4cfef 22 = .ok (.invokestatic 96, 3) := by decide +kernel
theorem dJ2_indexOfSupplementary_4cfef_25 : decode cJ2_indexOfSupplementary_4cfef 25 = .ok (.iload_n 2, 1) := by decide +kernel
theorem dJ2_indexOfSupplementary_4cfef_26 : decode cJ2_indexOfSupplementary_4cfef 26 = .ok (.istore 6, 2) := by decide +kernel
theorem dJ2_indexOfSupplementary_4cfef_28 : decode cJ2_indexOfSupplementary_4cfef 28 = .ok (.iload 6, 2) := by decide +kernel
theorem dJ2_indexOfSupplementary_4cfef_30 : decode cJ2_indexOfSupplementary_4cfef 30 = .ok (.iload_n 3, 1) := by decide +kernel
theorem dJ2_indexOfSupplementary_4cfef_31 : decode cJ2_indexOfSupplementary_4cfef 31 = .ok (.iconst 1, 1) := by decide +kernel
theorem dJ2_indexOfSupplementary_4cfef_32 : decode cJ2_indexOfSupplementary_4cfef 32 = .ok (.isub, 1) := by decide +kernel
theorem dJ2_indexOfSupplementary_4cfef_33 : decode cJ2_indexOfSupplementary_4cfef 33 = .ok (.if_icmp .ge 36, 3) := by decide +kernel
theorem dJ2_indexOfSupplementary_4cfef_36 : decode cJ2_indexOfSupplementary_4cfef 36 = .ok (.aload_n 0, 1) := by decide +kernel
theorem dJ2_indexOfSupplementary_4cfef_37 : decode cJ2_indexOfSupplementary_4cfef 37 = .ok (.iload 6, 2) := by decide +kernel
theorem dJ2_indexOfSupplementary_4cfef_39 : decode cJ2_indexOfSupplementary_4cfef 39 = .ok (.invokestatic 71, 3) := by decide +kernel
theorem dJ2_indexOfSupplementary_4cfef_42 : decode cJ2_indexOfSupplementary_4cfef 42 = .ok (.iload 4, 2) := by decide +kernel
theorem dJ2_indexOfSupplementary_4cfef_44 : decode cJ2_indexOfSupplementary_4cfef 44 = .ok (.if_icmp .ne 19, 3) := by decide +kernel
theorem dJ2_indexOfSupplementary_4cfef_47 : decode cJ2_indexOfSupplementary_4cfef 47 = .ok (.aload_n 0, 1) := by decide +kernel
theorem dJ2_indexOfSupplementary_4cfef_48 : decode cJ2_indexOfSupplementary_4cfef 48 = .ok (.iload 6, 2) := by decide +kernel
theorem dJ2_indexOfSupplementary_4cfef_50 : decode cJ2_indexOfSupplementary_4cfef 50 = .ok (.iconst 1, 1) := by decide +kernel
theorem dJ2_indexOfSupplementary_4cfef_51 : decode cJ2_indexOfSupplementary_4cfef 51 = .ok (.iadd, 1) := by decide +kernel
theorem dJ2_indexOfSupplementary_4cfef_52 : decode cJ2_indexOfSupplementary_4cfef 52 = .ok (.invokestatic 71, 3) := by decide +kernel
theorem dJ2_indexOfSupplementary_4cfef_55 : decode cJ2_indexOfSupplementary_4cfef 55 = .ok (.iload 5, 2) := by decide +kernel
theorem dJ2_indexOfSupplementary_4cfef_57 : decode cJ2_indexOfSupplementary_4cfef 57 = .ok (.if_icmp .ne 6, 3) := by decide +kernel
theorem dJ2_indexOfSupplementary_4cfef_60 : decode cJ2_indexOfSupplementary_4cfef 60 = .ok (.iload 6, 2) := by decide +kernel
theorem dJ2_indexOfSupplementary_4cfef_62 : decode cJ2_indexOfSupplementary_4cfef 62 = .ok (.ireturn, 1) := by decide +kernel
theorem dJ2_indexOfSupplementary_4cfef_63 : decode cJ2_indexOfSupplementary_4cfef 63 = .ok (.iinc 6 1, 3) := by decide +kernel
theorem dJ2_indexOfSupplementary_4cfef_66 : decode cJ2_indexOfSupplementary_4cfef 66 = .ok (.goto (-38), 3) := by decide +kernel
theorem dJ2_indexOfSupplementary_4cfef_69 : decode cJ2_indexOfSupplementary_4cfef 69 = .ok (.iconst (-1), 1) := by decide +kernel
theorem dJ2_indexOfSupplementary_4cfef_70 : decode cJ2_indexOfSupplementary_4cfef 70 = .ok (.ireturn, 1) := by decide +kernel
theorem dJ2_checkBoundsBeginEnd_d044e_0 : decode cJ2_checkBoundsBeginEnd_d044e 0 = .ok (.iload_n 0, 1) := by decide +kernel
theorem dJ2_checkBoundsBeginEnd_d044e_1 : decode cJ2_checkBoundsBeginEnd_d044e 1 = .ok (.iload_n 1, 1) := by decide +kernel
theorem dJ2_checkBoundsBeginEnd_d044e_2 : decode cJ2_checkBoundsBeginEnd_d044e 2 = .ok (.aload_n 2, 1) := by decide +kernel
theorem dJ2_checkBoundsBeginEnd_d044e_3 : decode cJ2_checkBoundsBeginEnd_d044e 3 = .ok (.invokestatic 48, 3) := by decide +kernel
theorem dJ2_checkBoundsBeginEnd_d044e_6 : decode cJ2_checkBoundsBeginEnd_d044e 6 = .ok (.invokestatic 241, 3) := by decide +kernel
theorem dJ2_checkBoundsBeginEnd_d044e_9 : decode cJ2_checkBoundsBeginEnd_d044e 9 = .ok (.return_, 1) := by decide +kernel
theorem dJ3_checkFromToIndex_8c36e_0 : decode cJ3_checkFromToIndex_8c36e 0 = .ok (.iload_n 0, 1) := by decide +kernel
theorem dJ3_checkFromToIndex_8c36e_1 : decode cJ3_checkFromToIndex_8c36e 1 = .ok (.ifCond .lt 13, 3) := by decide +kernel
theorem dJ3_checkFromToIndex_8c36e_4 : decode cJ3_checkFromToIndex_8c36e 4 = .ok (.iload_n 0, 1) := by decide +kernel
theorem dJ3_checkFromToIndex_8c36e_5 : decode cJ3_checkFromToIndex_8c36e 5 = .ok (.iload_n 1, 1) := by decide +kernel
theorem dJ3_checkFromToIndex_8c36e_6 : decode cJ3_checkFromToIndex_8c36e 6 = .ok (.if_icmp .gt 8, 3) := by decide +kernel
theorem dJ3_checkFromToIndex_8c36e_9 : decode cJ3_checkFromToIndex_8c36e 9 = .ok (.iload_n 1, 1) := by decide +kernel
theorem dJ3_checkFromToIndex_8c36e_10 : decode cJ3_checkFromToIndex_8c36e 10 = .ok (.iload_n 2, 1) := by decide +kernel
theorem dJ3_checkFromToIndex_8c36e_11 : decode cJ3_checkFromToIndex_8c36e 11 = .ok (.if_icmp .le 11, 3) := by decide +kernel
theorem dJ3_checkFromToIndex_8c36e_14 : decode cJ3_checkFromToIndex_8c36e 14 = .ok (.aload_n 3, 1) := by decide +kernel
theorem dJ3_checkFromToIndex_8c36e_15 : decode cJ3_checkFromToIndex_8c36e 15 = .ok (.iload_n 0, 1) := by decide +kernel
theorem dJ3_checkFromToIndex_8c36e_16 : decode cJ3_checkFromToIndex_8c36e 16 = .ok (.iload_n 1, 1) := by decide +kernel
theorem dJ3_checkFromToIndex_8c36e_17 : decode cJ3_checkFromToIndex_8c36e 17 = .ok (.iload_n 2, 1) := by decide +kernel
theorem dJ3_checkFromToIndex_8c36e_18 : decode cJ3_checkFromToIndex_8c36e 18 = .ok (.invokestatic 99, 3) := by decide +kernel
theorem dJ3_checkFromToIndex_8c36e_21 : decode cJ3_checkFromToIndex_8c36e 21 = .ok (.athrow, 1) := by decide +kernel
theorem dJ3_checkFromToIndex_8c36e_22 : decode cJ3_checkFromToIndex_8c36e 22 = .ok (.iload_n 0, 1) := by decide +kernel
theorem dJ3_checkFromToIndex_8c36e_23 : decode cJ3_checkFromToIndex_8c36e 23 = .ok (.ireturn, 1) := by decide +kernel
theorem dL_law_0 : decode cL_law 0 = .ok (.new 7, 3) := by decide +kernel
theorem dL_law_3 : decode cL_law 3 = .ok (.dup, 1) := by decide +kernel
theorem dL_law_4 : decode cL_law 4 = .ok (.invokespecial 9, 3) := by decide +kernel
theorem dL_law_7 : decode cL_law 7 = .ok (.astore_n 1, 1) := by decide +kernel
theorem dL_law_8 : decode cL_law 8 = .ok (.new 10, 3) := by decide +kernel
theorem dL_law_11 : decode cL_law 11 = .ok (.dup, 1) := by decide +kernel
theorem dL_law_12 : decode cL_law 12 = .ok (.invokespecial 12, 3) := by decide +kernel
theorem dL_law_15 : decode cL_law 15 = .ok (.astore_n 2, 1) := by decide +kernel
theorem dL_law_16 : decode cL_law 16 = .ok (.iconst 0, 1) := by decide +kernel
theorem dL_law_17 : decode cL_law 17 = .ok (.istore_n 3, 1) := by decide +kernel
theorem dL_law_18 : decode cL_law 18 = .ok (.iload_n 3, 1) := by decide +kernel
theorem dL_law_19 : decode cL_law 19 = .ok (.aload_n 0, 1) := by decide +kernel
theorem dL_law_20 : decode cL_law 20 = .ok (.arraylength, 1) := by decide +kernel
theorem dL_law_21 : decode cL_law 21 = .ok (.iconst 3, 1) := by decide +kernel
theorem dL_law_22 : decode cL_law 22 = .ok (.isub, 1) := by decide +kernel
theorem dL_law_23 : decode cL_law 23 = .ok (.if_icmp .gt 989, 3) := by decide +kernel
theorem dL_law_26 : decode cL_law 26 = .ok (.aload_n 0, 1) := by decide +kernel
theorem dL_law_27 : decode cL_law 27 = .ok (.iload_n 3, 1) := by decide +kernel
theorem dL_law_28 : decode cL_law 28 = .ok (.iaload, 1) := by decide +kernel
theorem dL_law_29 : decode cL_law 29 = .ok (.bipush 63, 2) := by decide +kernel
theorem dL_law_31 : decode cL_law 31 = .ok (.iand, 1) := by decide +kernel
theorem dL_law_32 : decode cL_law 32 = .ok (.tableswitch 974 0 33 #[152, 175, 188, 201, 224, 257, 290, 323, 356, 379, 412, 435, 448, 481, 504, 527, 550, 573, 586, 619, 642, 665, 688, 711, 744, 777, 800, 823, 846, 879, 892, 905, 928, 951], 152) := by decide +kernel
theorem dL_law_184 : decode cL_law 184 = .ok (.aload_n 1, 1) := by decide +kernel
theorem dL_law_185 : decode cL_law 185 = .ok (.aload_n 0, 1) := by decide +kernel
theorem dL_law_186 : decode cL_law 186 = .ok (.iload_n 3, 1) := by decide +kernel
theorem dL_law_187 : decode cL_law 187 = .ok (.iconst 1, 1) := by decide +kernel
theorem dL_law_188 : decode cL_law 188 = .ok (.iadd, 1) := by decide +kernel
theorem dL_law_189 : decode cL_law 189 = .ok (.iaload, 1) := by decide +kernel
theorem dL_law_190 : decode cL_law 190 = .ok (.invokevirtual 13, 3) := by decide +kernel
theorem dL_law_193 : decode cL_law 193 = .ok (.aload_n 2, 1) := by decide +kernel
theorem dL_law_194 : decode cL_law 194 = .ok (.aload_n 0, 1) := by decide +kernel
theorem dL_law_195 : decode cL_law 195 = .ok (.iload_n 3, 1) := by decide +kernel
theorem dL_law_196 : decode cL_law 196 = .ok (.iconst 1, 1) := by decide +kernel
theorem dL_law_197 : decode cL_law 197 = .ok (.iadd, 1) := by decide +kernel
theorem dL_law_198 : decode cL_law 198 = .ok (.iaload, 1) := by decide +kernel
theorem dL_law_199 : decode cL_law 199 = .ok (.invokevirtual 17, 3) := by decide +kernel
theorem dL_law_202 : decode cL_law 202 = .ok (.if_icmp .eq 804, 3) := by decide +kernel
theorem dL_law_205 : decode cL_law 205 = .ok (.iconst 0, 1) := by decide +kernel
theorem dL_law_206 : decode cL_law 206 = .ok (.ireturn, 1) := by decide +kernel
theorem dL_law_207 : decode cL_law 207 = .ok (.aload_n 1, 1) := by decide +kernel
theorem dL_law_208 : decode cL_law 208 = .ok (.invokevirtual 18, 3) := by decide +kernel
theorem dL_law_211 : decode cL_law 211 = .ok (.aload_n 2, 1) := by decide +kernel
theorem dL_law_212 : decode cL_law 212 = .ok (.invokevirtual 22, 3) := by decide +kernel
theorem dL_law_215 : decode cL_law 215 = .ok (.if_icmp .eq 791, 3) := by decide +kernel
theorem dL_law_218 : decode cL_law 218 = .ok (.iconst 0, 1) := by decide +kernel
theorem dL_law_219 : decode cL_law 219 = .ok (.ireturn, 1) := by decide +kernel
theorem dL_law_220 : decode cL_law 220 = .ok (.aload_n 1, 1) := by decide +kernel
theorem dL_law_221 : decode cL_law 221 = .ok (.invokevirtual 23, 3) := by decide +kernel
theorem dL_law_224 : decode cL_law 224 = .ok (.aload_n 2, 1) := by decide +kernel
theorem dL_law_225 : decode cL_law 225 = .ok (.invokevirtual 26, 3) := by decide +kernel
theorem dL_law_228 : decode cL_law 228 = .ok (.if_icmp .eq 778, 3) := by decide +kernel
theorem dL_law_231 : decode cL_law 231 = .ok (.iconst 0, 1) := by decide +kernel
theorem dL_law_232 : decode cL_law 232 = .ok (.ireturn, 1) := by decide +kernel
theorem dL_law_233 : decode cL_law 233 = .ok (.aload_n 1, 1) := by decide +kernel
theorem dL_law_234 : decode cL_law 234 = .ok (.aload_n 0, 1) := by decide +kernel
theorem dL_law_235 : decode cL_law 235 = .ok (.iload_n 3, 1) := by decide +kernel
theorem dL_law_236 : decode cL_law 236 = .ok (.iconst 1, 1) := by decide +kernel
theorem dL_law_237 : decode cL_law 237 = .ok (.iadd, 1) := by decide +kernel
theorem dL_law_238 : decode cL_law 238 = .ok (.iaload, 1) := by decide +kernel
theorem dL_law_239 : decode cL_law 239 = .ok (.invokevirtual 27, 3) := by decide +kernel
theorem dL_law_242 : decode cL_law 242 = .ok (.aload_n 2, 1) := by decide +kernel
theorem dL_law_243 : decode cL_law 243 = .ok (.aload_n 0, 1) := by decide +kernel
theorem dL_law_244 : decode cL_law 244 = .ok (.iload_n 3, 1) := by decide +kernel
theorem dL_law_245 : decode cL_law 245 = .ok (.iconst 1, 1) := by decide +kernel
theorem dL_law_246 : decode cL_law 246 = .ok (.iadd, 1) := by decide +kernel
theorem dL_law_247 : decode cL_law 247 = .ok (.iaload, 1) := by decide +kernel
theorem dL_law_248 : decode cL_law 248 = .ok (.invokevirtual 30, 3) := by decide +kernel
theorem dL_law_251 : decode cL_law 251 = .ok (.if_icmp .eq 755, 3) := by decide +kernel
theorem dL_law_254 : decode cL_law 254 = .ok (.iconst 0, 1) := by decide +kernel
theorem dL_law_255 : decode cL_law 255 = .ok (.ireturn, 1) := by decide +kernel
theorem dL_law_256 : decode cL_law 256 = .ok (.aload_n 1, 1) := by decide +kernel
theorem dL_law_257 : decode cL_law 257 = .ok (.aload_n 0, 1) := by decide +kernel
theorem dL_law_258 : decode cL_law 258 = .ok (.iload_n 3, 1) := by decide +kernel
theorem dL_law_259 : decode cL_law 259 = .ok (.iconst 1, 1) := by decide +kernel
theorem dL_law_260 : decode cL_law 260 = .ok (.iadd, 1) := by decide +kernel
theorem dL_law_261 : decode cL_law 261 = .ok (.iaload, 1) := by decide +kernel
theorem dL_law_262 : decode cL_law 262 = .ok (.aload_n 0, 1) := by decide +kernel
theorem dL_law_263 : decode cL_law 263 = .ok (.iload_n 3, 1) := by decide +kernel
theorem dL_law_264 : decode cL_law 264 = .ok (.iconst 2, 1) := by decide +kernel
theorem dL_law_265 : decode cL_law 265 = .ok (.iadd, 1) := by decide +kernel
theorem dL_law_266 : decode cL_law 266 = .ok (.iaload, 1) := by decide +kernel
theorem dL_law_267 : decode cL_law 267 = .ok (.invokevirtual 31, 3) := by decide +kernel
theorem dL_law_270 : decode cL_law 270 = .ok (.aload_n 2, 1) := by decide +kernel
theorem dL_law_271 : decode cL_law 271 = .ok (.aload_n 0, 1) := by decide +kernel
theorem dL_law_272 : decode cL_law 272 = .ok (.iload_n 3, 1) := by decide +kernel
theorem dL_law_273 : decode cL_law 273 = .ok (.iconst 1, 1) := by decide +kernel
theorem dL_law_274 : decode cL_law 274 = .ok (.iadd, 1) := by decide +kernel
theorem dL_law_275 : decode cL_law 275 = .ok (.iaload, 1) := by decide +kernel
theorem dL_law_276 : decode cL_law 276 = .ok (.aload_n 0, 1) := by decide +kernel
theorem dL_law_277 : decode cL_law 277 = .ok (.iload_n 3, 1) := by decide +kernel
theorem dL_law_278 : decode cL_law 278 = .ok (.iconst 2, 1) := by decide +kernel
theorem dL_law_279 : decode cL_law 279 = .ok (.iadd, 1) := by decide +kernel
theorem dL_law_280 : decode cL_law 280 = .ok (.iaload, 1) := by decide +kernel
theorem dL_law_281 : decode cL_law 281 = .ok (.invokevirtual 35, 3) := by decide +kernel
theorem dL_law_284 : decode cL_law 284 = .ok (.if_icmp .eq 722, 3) := by decide +kernel
theorem dL_law_287 : decode cL_law 287 = .ok (.iconst 0, 1) := by decide +kernel
theorem dL_law_288 : decode cL_law 288 = .ok (.ireturn, 1) := by decide +kernel
theorem dL_law_289 : decode cL_law 289 = .ok (.aload_n 1, 1) := by decide +kernel
theorem dL_law_290 : decode cL_law 290 = .ok (.aload_n 0, 1) := by decide +kernel
theorem dL_law_291 : decode cL_law 291 = .ok (.iload_n 3, 1) := by decide +kernel
theorem dL_law_292 : decode cL_law 292 = .ok (.iconst 1, 1) := by decide +kernel
theorem dL_law_293 : decode cL_law 293 = .ok (.iadd, 1) := by decide +kernel
theorem dL_law_294 : decode cL_law 294 = .ok (.iaload, 1) := by decide +kernel
theorem dL_law_295 : decode cL_law 295 = .ok (.aload_n 0, 1) := by decide +kernel
theorem dL_law_296 : decode cL_law 296 = .ok (.iload_n 3, 1) := by decide +kernel
theorem dL_law_297 : decode cL_law 297 = .ok (.iconst 2, 1) := by decide +kernel
theorem dL_law_298 : decode cL_law 298 = .ok (.iadd, 1) := by decide +kernel
theorem dL_law_299 : decode cL_law 299 = .ok (.iaload, 1) := by decide +kernel
theorem dL_law_300 : decode cL_law 300 = .ok (.invokevirtual 36, 3) := by decide +kernel
theorem dL_law_303 : decode cL_law 303 = .ok (.aload_n 2, 1) := by decide +kernel
theorem dL_law_304 : decode cL_law 304 = .ok (.aload_n 0, 1) := by decide +kernel
theorem dL_law_305 : decode cL_law 305 = .ok (.iload_n 3, 1) := by decide +kernel
theorem dL_law_306 : decode cL_law 306 = .ok (.iconst 1, 1) := by decide +kernel
theorem dL_law_307 : decode cL_law 307 = .ok (.iadd, 1) := by decide +kernel
theorem dL_law_308 : decode cL_law 308 = .ok (.iaload, 1) := by decide +kernel
theorem dL_law_309 : decode cL_law 309 = .ok (.aload_n 0, 1) := by decide +kernel
theorem dL_law_310 : decode cL_law 310 = .ok (.iload_n 3, 1) := by decide +kernel
theorem dL_law_311 : decode cL_law 311 = .ok (.iconst 2, 1) := by decide +kernel
theorem dL_law_312 : decode cL_law 312 = .ok (.iadd, 1) := by decide +kernel
theorem dL_law_313 : decode cL_law 313 = .ok (.iaload, 1) := by decide +kernel
theorem dL_law_314 : decode cL_law 314 = .ok (.invokevirtual 39, 3) := by decide +kernel
theorem dL_law_317 : decode cL_law 317 = .ok (.if_icmp .eq 689, 3) := by decide +kernel
theorem dL_law_320 : decode cL_law 320 = .ok (.iconst 0, 1) := by decide +kernel
theorem dL_law_321 : decode cL_law 321 = .ok (.ireturn, 1) := by decide +kernel
theorem dL_law_322 : decode cL_law 322 = .ok (.aload_n 1, 1) := by decide +kernel
theorem dL_law_323 : decode cL_law 323 = .ok (.aload_n 0, 1) := by decide +kernel
theorem dL_law_324 : decode cL_law 324 = .ok (.iload_n 3, 1) := by decide +kernel
theorem dL_law_325 : decode cL_law 325 = .ok (.iconst 1, 1) := by decide +kernel
theorem dL_law_326 : decode cL_law 326 = .ok (.iadd, 1) := by decide +kernel
theorem dL_law_327 : decode cL_law 327 = .ok (.iaload, 1) := by decide +kernel
theorem dL_law_328 : decode cL_law 328 = .ok (.aload_n 0, 1) := by decide +kernel
theorem dL_law_329 : decode cL_law 329 = .ok (.iload_n 3, 1) := by decide +kernel
theorem dL_law_330 : decode cL_law 330 = .ok (.iconst 2, 1) := by decide +kernel
theorem dL_law_331 : decode cL_law 331 = .ok (.iadd, 1) := by decide +kernel
theorem dL_law_332 : decode cL_law 332 = .ok (.iaload, 1) := by decide +kernel
theorem dL_law_333 : decode cL_law 333 = .ok (.invokevirtual 40, 3) := by decide +kernel
theorem dL_law_336 : decode cL_law 336 = .ok (.aload_n 2, 1) := by decide +kernel
theorem dL_law_337 : decode cL_law 337 = .ok (.aload_n 0, 1) := by decide +kernel
theorem dL_law_338 : decode cL_law 338 = .ok (.iload_n 3, 1) := by decide +kernel
theorem dL_law_339 : decode cL_law 339 = .ok (.iconst 1, 1) := by decide +kernel
theorem dL_law_340 : decode cL_law 340 = .ok (.iadd, 1) := by decide +kernel
theorem dL_law_341 : decode cL_law 341 = .ok (.iaload, 1) := by decide +kernel
theorem dL_law_342 : decode cL_law 342 = .ok (.aload_n 0, 1) := by decide +kernel
theorem dL_law_343 : decode cL_law 343 = .ok (.iload_n 3, 1) := by decide +kernel
theorem dL_law_344 : decode cL_law 344 = .ok (.iconst 2, 1) := by decide +kernel
theorem dL_law_345 : decode cL_law 345 = .ok (.iadd, 1) := by decide +kernel
theorem dL_law_346 : decode cL_law 346 = .ok (.iaload, 1) := by decide +kernel
theorem dL_law_347 : decode cL_law 347 = .ok (.invokevirtual 43, 3) := by decide +kernel
theorem dL_law_350 : decode cL_law 350 = .ok (.if_icmp .eq 656, 3) := by decide +kernel
theorem dL_law_353 : decode cL_law 353 = .ok (.iconst 0, 1) := by decide +kernel
theorem dL_law_354 : decode cL_law 354 = .ok (.ireturn, 1) := by decide +kernel
theorem dL_law_355 : decode cL_law 355 = .ok (.aload_n 1, 1) := by decide +kernel
theorem dL_law_356 : decode cL_law 356 = .ok (.aload_n 0, 1) := by decide +kernel
theorem dL_law_357 : decode cL_law 357 = .ok (.iload_n 3, 1) := by decide +kernel
theorem dL_law_358 : decode cL_law 358 = .ok (.iconst 1, 1) := by decide +kernel
theorem dL_law_359 : decode cL_law 359 = .ok (.iadd, 1) := by decide +kernel
theorem dL_law_360 : decode cL_law 360 = .ok (.iaload, 1) := by decide +kernel
theorem dL_law_361 : decode cL_law 361 = .ok (.aload_n 0, 1) := by decide +kernel
theorem dL_law_362 : decode cL_law 362 = .ok (.iload_n 3, 1) := by decide +kernel
theorem dL_law_363 : decode cL_law 363 = .ok (.iconst 2, 1) := by decide +kernel
theorem dL_law_364 : decode cL_law 364 = .ok (.iadd, 1) := by decide +kernel
theorem dL_law_365 : decode cL_law 365 = .ok (.iaload, 1) := by decide +kernel
theorem dL_law_366 : decode cL_law 366 = .ok (.invokevirtual 44, 3) := by decide +kernel
theorem dL_law_369 : decode cL_law 369 = .ok (.aload_n 2, 1) := by decide +kernel
theorem dL_law_370 : decode cL_law 370 = .ok (.aload_n 0, 1) := by decide +kernel
theorem dL_law_371 : decode cL_law 371 = .ok (.iload_n 3, 1) := by decide +kernel
theorem dL_law_372 : decode cL_law 372 = .ok (.iconst 1, 1) := by decide +kernel
theorem dL_law_373 : decode cL_law 373 = .ok (.iadd, 1) := by decide +kernel
theorem dL_law_374 : decode cL_law 374 = .ok (.iaload, 1) := by decide +kernel
theorem dL_law_375 : decode cL_law 375 = .ok (.aload_n 0, 1) := by decide +kernel
theorem dL_law_376 : decode cL_law 376 = .ok (.iload_n 3, 1) := by decide +kernel
theorem dL_law_377 : decode cL_law 377 = .ok (.iconst 2, 1) := by decide +kernel
theorem dL_law_378 : decode cL_law 378 = .ok (.iadd, 1) := by decide +kernel
theorem dL_law_379 : decode cL_law 379 = .ok (.iaload, 1) := by decide +kernel
theorem dL_law_380 : decode cL_law 380 = .ok (.invokevirtual 47, 3) := by decide +kernel
theorem dL_law_383 : decode cL_law 383 = .ok (.if_icmp .eq 623, 3) := by decide +kernel
theorem dL_law_386 : decode cL_law 386 = .ok (.iconst 0, 1) := by decide +kernel
theorem dL_law_387 : decode cL_law 387 = .ok (.ireturn, 1) := by decide +kernel
theorem dL_law_388 : decode cL_law 388 = .ok (.aload_n 1, 1) := by decide +kernel
theorem dL_law_389 : decode cL_law 389 = .ok (.aload_n 0, 1) := by decide +kernel
theorem dL_law_390 : decode cL_law 390 = .ok (.iload_n 3, 1) := by decide +kernel
theorem dL_law_391 : decode cL_law 391 = .ok (.iconst 1, 1) := by decide +kernel
theorem dL_law_392 : decode cL_law 392 = .ok (.iadd, 1) := by decide +kernel
theorem dL_law_393 : decode cL_law 393 = .ok (.iaload, 1) := by decide +kernel
theorem dL_law_394 : decode cL_law 394 = .ok (.invokevirtual 48, 3) := by decide +kernel
theorem dL_law_397 : decode cL_law 397 = .ok (.aload_n 2, 1) := by decide +kernel
theorem dL_law_398 : decode cL_law 398 = .ok (.aload_n 0, 1) := by decide +kernel
theorem dL_law_399 : decode cL_law 399 = .ok (.iload_n 3, 1) := by decide +kernel
theorem dL_law_400 : decode cL_law 400 = .ok (.iconst 1, 1) := by decide +kernel
theorem dL_law_401 : decode cL_law 401 = .ok (.iadd, 1) := by decide +kernel
theorem dL_law_402 : decode cL_law 402 = .ok (.iaload, 1) := by decide +kernel
theorem dL_law_403 : decode cL_law 403 = .ok (.invokevirtual 51, 3) := by decide +kernel
theorem dL_law_406 : decode cL_law 406 = .ok (.if_icmp .eq 600, 3) := by decide +kernel
theorem dL_law_409 : decode cL_law 409 = .ok (.iconst 0, 1) := by decide +kernel
theorem dL_law_410 : decode cL_law 410 = .ok (.ireturn, 1) := by decide +kernel
theorem dL_law_411 : decode cL_law 411 = .ok (.aload_n 1, 1) := by decide +kernel
theorem dL_law_412 : decode cL_law 412 = .ok (.aload_n 0, 1) := by decide +kernel
theorem dL_law_413 : decode cL_law 413 = .ok (.iload_n 3, 1) := by decide +kernel
theorem dL_law_414 : decode cL_law 414 = .ok (.iconst 1, 1) := by decide +kernel
theorem dL_law_415 : decode cL_law 415 = .ok (.iadd, 1) := by decide +kernel
theorem dL_law_416 : decode cL_law 416 = .ok (.iaload, 1) := by decide +kernel
theorem dL_law_417 : decode cL_law 417 = .ok (.aload_n 0, 1) := by decide +kernel
theorem dL_law_418 : decode cL_law 418 = .ok (.iload_n 3, 1) := by decide +kernel
theorem dL_law_419 : decode cL_law 419 = .ok (.iconst 2, 1) := by decide +kernel
theorem dL_law_420 : decode cL_law 420 = .ok (.iadd, 1) := by decide +kernel
theorem dL_law_421 : decode cL_law 421 = .ok (.iaload, 1) := by decide +kernel
theorem dL_law_422 : decode cL_law 422 = .ok (.invokevirtual 52, 3) := by decide +kernel
theorem dL_law_425 : decode cL_law 425 = .ok (.aload_n 2, 1) := by decide +kernel
theorem dL_law_426 : decode cL_law 426 = .ok (.aload_n 0, 1) := by decide +kernel
theorem dL_law_427 : decode cL_law 427 = .ok (.iload_n 3, 1) := by decide +kernel
theorem dL_law_428 : decode cL_law 428 = .ok (.iconst 1, 1) := by decide +kernel
theorem dL_law_429 : decode cL_law 429 = .ok (.iadd, 1) := by decide +kernel
theorem dL_law_430 : decode cL_law 430 = .ok (.iaload, 1) := by decide +kernel
theorem dL_law_431 : decode cL_law 431 = .ok (.aload_n 0, 1) := by decide +kernel
theorem dL_law_432 : decode cL_law 432 = .ok (.iload_n 3, 1) := by decide +kernel
theorem dL_law_433 : decode cL_law 433 = .ok (.iconst 2, 1) := by decide +kernel
theorem dL_law_434 : decode cL_law 434 = .ok (.iadd, 1) := by decide +kernel
theorem dL_law_435 : decode cL_law 435 = .ok (.iaload, 1) := by decide +kernel
theorem dL_law_436 : decode cL_law 436 = .ok (.invokevirtual 55, 3) := by decide +kernel
theorem dL_law_439 : decode cL_law 439 = .ok (.if_icmp .eq 567, 3) := by decide +kernel
theorem dL_law_442 : decode cL_law 442 = .ok (.iconst 0, 1) := by decide +kernel
theorem dL_law_443 : decode cL_law 443 = .ok (.ireturn, 1) := by decide +kernel
theorem dL_law_444 : decode cL_law 444 = .ok (.aload_n 1, 1) := by decide +kernel
theorem dL_law_445 : decode cL_law 445 = .ok (.aload_n 0, 1) := by decide +kernel
theorem dL_law_446 : decode cL_law 446 = .ok (.iload_n 3, 1) := by decide +kernel
theorem dL_law_447 : decode cL_law 447 = .ok (.iconst 1, 1) := by decide +kernel
theorem dL_law_448 : decode cL_law 448 = .ok (.iadd, 1) := by decide +kernel
theorem dL_law_449 : decode cL_law 449 = .ok (.iaload, 1) := by decide +kernel
theorem dL_law_450 : decode cL_law 450 = .ok (.invokevirtual 56, 3) := by decide +kernel
theorem dL_law_453 : decode cL_law 453 = .ok (.aload_n 2, 1) := by decide +kernel
theorem dL_law_454 : decode cL_law 454 = .ok (.aload_n 0, 1) := by decide +kernel
theorem dL_law_455 : decode cL_law 455 = .ok (.iload_n 3, 1) := by decide +kernel
theorem dL_law_456 : decode cL_law 456 = .ok (.iconst 1, 1) := by decide +kernel
theorem dL_law_457 : decode cL_law 457 = .ok (.iadd, 1) := by decide +kernel
theorem dL_law_458 : decode cL_law 458 = .ok (.iaload, 1) := by decide +kernel
theorem dL_law_459 : decode cL_law 459 = .ok (.invokevirtual 59, 3) := by decide +kernel
theorem dL_law_462 : decode cL_law 462 = .ok (.if_icmp .eq 544, 3) := by decide +kernel
theorem dL_law_465 : decode cL_law 465 = .ok (.iconst 0, 1) := by decide +kernel
theorem dL_law_466 : decode cL_law 466 = .ok (.ireturn, 1) := by decide +kernel
theorem dL_law_467 : decode cL_law 467 = .ok (.aload_n 1, 1) := by decide +kernel
theorem dL_law_468 : decode cL_law 468 = .ok (.invokevirtual 60, 3) := by decide +kernel
theorem dL_law_471 : decode cL_law 471 = .ok (.aload_n 2, 1) := by decide +kernel
theorem dL_law_472 : decode cL_law 472 = .ok (.invokevirtual 63, 3) := by decide +kernel
theorem dL_law_475 : decode cL_law 475 = .ok (.if_icmp .eq 531, 3) := by decide +kernel
theorem dL_law_478 : decode cL_law 478 = .ok (.iconst 0, 1) := by decide +kernel
theorem dL_law_479 : decode cL_law 479 = .ok (.ireturn, 1) := by decide +kernel
theorem dL_law_480 : decode cL_law 480 = .ok (.aload_n 1, 1) := by decide +kernel
theorem dL_law_481 : decode cL_law 481 = .ok (.aload_n 0, 1) := by decide +kernel
theorem dL_law_482 : decode cL_law 482 = .ok (.iload_n 3, 1) := by decide +kernel
theorem dL_law_483 : decode cL_law 483 = .ok (.iconst 1, 1) := by decide +kernel
theorem dL_law_484 : decode cL_law 484 = .ok (.iadd, 1) := by decide +kernel
theorem dL_law_485 : decode cL_law 485 = .ok (.iaload, 1) := by decide +kernel
theorem dL_law_486 : decode cL_law 486 = .ok (.aload_n 0, 1) := by decide +kernel
theorem dL_law_487 : decode cL_law 487 = .ok (.iload_n 3, 1) := by decide +kernel
theorem dL_law_488 : decode cL_law 488 = .ok (.iconst 2, 1) := by decide +kernel
theorem dL_law_489 : decode cL_law 489 = .ok (.iadd, 1) := by decide +kernel
theorem dL_law_490 : decode cL_law 490 = .ok (.iaload, 1) := by decide +kernel
theorem dL_law_491 : decode cL_law 491 = .ok (.invokevirtual 64, 3) := by decide +kernel
theorem dL_law_494 : decode cL_law 494 = .ok (.aload_n 2, 1) := by decide +kernel
theorem dL_law_495 : decode cL_law 495 = .ok (.aload_n 0, 1) := by decide +kernel
theorem dL_law_496 : decode cL_law 496 = .ok (.iload_n 3, 1) := by decide +kernel
theorem dL_law_497 : decode cL_law 497 = .ok (.iconst 1, 1) := by decide +kernel
theorem dL_law_498 : decode cL_law 498 = .ok (.iadd, 1) := by decide +kernel
theorem dL_law_499 : decode cL_law 499 = .ok (.iaload, 1) := by decide +kernel
theorem dL_law_500 : decode cL_law 500 = .ok (.aload_n 0, 1) := by decide +kernel
theorem dL_law_501 : decode cL_law 501 = .ok (.iload_n 3, 1) := by decide +kernel
theorem dL_law_502 : decode cL_law 502 = .ok (.iconst 2, 1) := by decide +kernel
theorem dL_law_503 : decode cL_law 503 = .ok (.iadd, 1) := by decide +kernel
theorem dL_law_504 : decode cL_law 504 = .ok (.iaload, 1) := by decide +kernel
theorem dL_law_505 : decode cL_law 505 = .ok (.invokevirtual 67, 3) := by decide +kernel
theorem dL_law_508 : decode cL_law 508 = .ok (.if_icmp .eq 498, 3) := by decide +kernel
theorem dL_law_511 : decode cL_law 511 = .ok (.iconst 0, 1) := by decide +kernel
theorem dL_law_512 : decode cL_law 512 = .ok (.ireturn, 1) := by decide +kernel
theorem dL_law_513 : decode cL_law 513 = .ok (.aload_n 1, 1) := by decide +kernel
theorem dL_law_514 : decode cL_law 514 = .ok (.aload_n 0, 1) := by decide +kernel
theorem dL_law_515 : decode cL_law 515 = .ok (.iload_n 3, 1) := by decide +kernel
theorem dL_law_516 : decode cL_law 516 = .ok (.iconst 1, 1) := by decide +kernel
theorem dL_law_517 : decode cL_law 517 = .ok (.iadd, 1) := by decide +kernel
theorem dL_law_518 : decode cL_law 518 = .ok (.iaload, 1) := by decide +kernel
theorem dL_law_519 : decode cL_law 519 = .ok (.invokevirtual 68, 3) := by decide +kernel
theorem dL_law_522 : decode cL_law 522 = .ok (.aload_n 2, 1) := by decide +kernel
theorem dL_law_523 : decode cL_law 523 = .ok (.aload_n 0, 1) := by decide +kernel
theorem dL_law_524 : decode cL_law 524 = .ok (.iload_n 3, 1) := by decide +kernel
theorem dL_law_525 : decode cL_law 525 = .ok (.iconst 1, 1) := by decide +kernel
theorem dL_law_526 : decode cL_law 526 = .ok (.iadd, 1) := by decide +kernel
theorem dL_law_527 : decode cL_law 527 = .ok (.iaload, 1) := by decide +kernel
theorem dL_law_528 : decode cL_law 528 = .ok (.invokevirtual 71, 3) := by decide +kernel
theorem dL_law_531 : decode cL_law 531 = .ok (.if_icmp .eq 475, 3) := by decide +kernel
theorem dL_law_534 : decode cL_law 534 = .ok (.iconst 0, 1) := by decide +kernel
theorem dL_law_535 : decode cL_law 535 = .ok (.ireturn, 1) := by decide +kernel
theorem dL_law_536 : decode cL_law 536 = .ok (.aload_n 1, 1) := by decide +kernel
theorem dL_law_537 : decode cL_law 537 = .ok (.aload_n 0, 1) := by decide +kernel
theorem dL_law_538 : decode cL_law 538 = .ok (.iload_n 3, 1) := by decide +kernel
theorem dL_law_539 : decode cL_law 539 = .ok (.iconst 1, 1) := by decide +kernel
theorem dL_law_540 : decode cL_law 540 = .ok (.iadd, 1) := by decide +kernel
theorem dL_law_541 : decode cL_law 541 = .ok (.iaload, 1) := by decide +kernel
theorem dL_law_542 : decode cL_law 542 = .ok (.invokevirtual 72, 3) := by decide +kernel
theorem dL_law_545 : decode cL_law 545 = .ok (.aload_n 2, 1) := by decide +kernel
theorem dL_law_546 : decode cL_law 546 = .ok (.aload_n 0, 1) := by decide +kernel
theorem dL_law_547 : decode cL_law 547 = .ok (.iload_n 3, 1) := by decide +kernel
theorem dL_law_548 : decode cL_law 548 = .ok (.iconst 1, 1) := by decide +kernel
theorem dL_law_549 : decode cL_law 549 = .ok (.iadd, 1) := by decide +kernel
theorem dL_law_550 : decode cL_law 550 = .ok (.iaload, 1) := by decide +kernel
theorem dL_law_551 : decode cL_law 551 = .ok (.invokevirtual 75, 3) := by decide +kernel
theorem dL_law_554 : decode cL_law 554 = .ok (.if_icmp .eq 452, 3) := by decide +kernel
theorem dL_law_557 : decode cL_law 557 = .ok (.iconst 0, 1) := by decide +kernel
theorem dL_law_558 : decode cL_law 558 = .ok (.ireturn, 1) := by decide +kernel
theorem dL_law_559 : decode cL_law 559 = .ok (.aload_n 1, 1) := by decide +kernel
theorem dL_law_560 : decode cL_law 560 = .ok (.aload_n 0, 1) := by decide +kernel
theorem dL_law_561 : decode cL_law 561 = .ok (.iload_n 3, 1) := by decide +kernel
theorem dL_law_562 : decode cL_law 562 = .ok (.iconst 1, 1) := by decide +kernel
theorem dL_law_563 : decode cL_law 563 = .ok (.iadd, 1) := by decide +kernel
theorem dL_law_564 : decode cL_law 564 = .ok (.iaload, 1) := by decide +kernel
theorem dL_law_565 : decode cL_law 565 = .ok (.invokevirtual 76, 3) := by decide +kernel
theorem dL_law_568 : decode cL_law 568 = .ok (.aload_n 2, 1) := by decide +kernel
theorem dL_law_569 : decode cL_law 569 = .ok (.aload_n 0, 1) := by decide +kernel
theorem dL_law_570 : decode cL_law 570 = .ok (.iload_n 3, 1) := by decide +kernel
theorem dL_law_571 : decode cL_law 571 = .ok (.iconst 1, 1) := by decide +kernel
theorem dL_law_572 : decode cL_law 572 = .ok (.iadd, 1) := by decide +kernel
theorem dL_law_573 : decode cL_law 573 = .ok (.iaload, 1) := by decide +kernel
theorem dL_law_574 : decode cL_law 574 = .ok (.invokevirtual 79, 3) := by decide +kernel
theorem dL_law_577 : decode cL_law 577 = .ok (.if_icmp .eq 429, 3) := by decide +kernel
theorem dL_law_580 : decode cL_law 580 = .ok (.iconst 0, 1) := by decide +kernel
theorem dL_law_581 : decode cL_law 581 = .ok (.ireturn, 1) := by decide +kernel
theorem dL_law_582 : decode cL_law 582 = .ok (.aload_n 1, 1) := by decide +kernel
theorem dL_law_583 : decode cL_law 583 = .ok (.aload_n 0, 1) := by decide +kernel
theorem dL_law_584 : decode cL_law 584 = .ok (.iload_n 3, 1) := by decide +kernel
theorem dL_law_585 : decode cL_law 585 = .ok (.iconst 1, 1) := by decide +kernel
theorem dL_law_586 : decode cL_law 586 = .ok (.iadd, 1) := by decide +kernel
theorem dL_law_587 : decode cL_law 587 = .ok (.iaload, 1) := by decide +kernel
theorem dL_law_588 : decode cL_law 588 = .ok (.invokevirtual 80, 3) := by decide +kernel
theorem dL_law_591 : decode cL_law 591 = .ok (.aload_n 2, 1) := by decide +kernel
theorem dL_law_592 : decode cL_law 592 = .ok (.aload_n 0, 1) := by decide +kernel
theorem dL_law_593 : decode cL_law 593 = .ok (.iload_n 3, 1) := by decide +kernel
theorem dL_law_594 : decode cL_law 594 = .ok (.iconst 1, 1) := by decide +kernel
theorem dL_law_595 : decode cL_law 595 = .ok (.iadd, 1) := by decide +kernel
theorem dL_law_596 : decode cL_law 596 = .ok (.iaload, 1) := by decide +kernel
theorem dL_law_597 : decode cL_law 597 = .ok (.invokevirtual 83, 3) := by decide +kernel
theorem dL_law_600 : decode cL_law 600 = .ok (.if_icmp .eq 406, 3) := by decide +kernel
theorem dL_law_603 : decode cL_law 603 = .ok (.iconst 0, 1) := by decide +kernel
theorem dL_law_604 : decode cL_law 604 = .ok (.ireturn, 1) := by decide +kernel
theorem dL_law_605 : decode cL_law 605 = .ok (.aload_n 1, 1) := by decide +kernel
theorem dL_law_606 : decode cL_law 606 = .ok (.invokevirtual 84, 3) := by decide +kernel
theorem dL_law_609 : decode cL_law 609 = .ok (.aload_n 2, 1) := by decide +kernel
theorem dL_law_610 : decode cL_law 610 = .ok (.invokevirtual 87, 3) := by decide +kernel
theorem dL_law_613 : decode cL_law 613 = .ok (.if_icmp .eq 393, 3) := by decide +kernel
theorem dL_law_616 : decode cL_law 616 = .ok (.iconst 0, 1) := by decide +kernel
theorem dL_law_617 : decode cL_law 617 = .ok (.ireturn, 1) := by decide +kernel
theorem dL_law_618 : decode cL_law 618 = .ok (.aload_n 1, 1) := by decide +kernel
theorem dL_law_619 : decode cL_law 619 = .ok (.aload_n 0, 1) := by decide +kernel
theorem dL_law_620 : decode cL_law 620 = .ok (.iload_n 3, 1) := by decide +kernel
theorem dL_law_621 : decode cL_law 621 = .ok (.iconst 1, 1) := by decide +kernel
theorem dL_law_622 : decode cL_law 622 = .ok (.iadd, 1) := by decide +kernel
theorem dL_law_623 : decode cL_law 623 = .ok (.iaload, 1) := by decide +kernel
theorem dL_law_624 : decode cL_law 624 = .ok (.aload_n 0, 1) := by decide +kernel
theorem dL_law_625 : decode cL_law 625 = .ok (.iload_n 3, 1) := by decide +kernel
theorem dL_law_626 : decode cL_law 626 = .ok (.iconst 2, 1) := by decide +kernel
theorem dL_law_627 : decode cL_law 627 = .ok (.iadd, 1) := by decide +kernel
theorem dL_law_628 : decode cL_law 628 = .ok (.iaload, 1) := by decide +kernel
theorem dL_law_629 : decode cL_law 629 = .ok (.invokevirtual 88, 3) := by decide +kernel
theorem dL_law_632 : decode cL_law 632 = .ok (.aload_n 2, 1) := by decide +kernel
theorem dL_law_633 : decode cL_law 633 = .ok (.aload_n 0, 1) := by decide +kernel
theorem dL_law_634 : decode cL_law 634 = .ok (.iload_n 3, 1) := by decide +kernel
theorem dL_law_635 : decode cL_law 635 = .ok (.iconst 1, 1) := by decide +kernel
theorem dL_law_636 : decode cL_law 636 = .ok (.iadd, 1) := by decide +kernel
theorem dL_law_637 : decode cL_law 637 = .ok (.iaload, 1) := by decide +kernel
theorem dL_law_638 : decode cL_law 638 = .ok (.aload_n 0, 1) := by decide +kernel
theorem dL_law_639 : decode cL_law 639 = .ok (.iload_n 3, 1) := by decide +kernel
theorem dL_law_640 : decode cL_law 640 = .ok (.iconst 2, 1) := by decide +kernel
theorem dL_law_641 : decode cL_law 641 = .ok (.iadd, 1) := by decide +kernel
theorem dL_law_642 : decode cL_law 642 = .ok (.iaload, 1) := by decide +kernel
theorem dL_law_643 : decode cL_law 643 = .ok (.invokevirtual 91, 3) := by decide +kernel
theorem dL_law_646 : decode cL_law 646 = .ok (.if_icmp .eq 360, 3) := by decide +kernel
theorem dL_law_649 : decode cL_law 649 = .ok (.iconst 0, 1) := by decide +kernel
theorem dL_law_650 : decode cL_law 650 = .ok (.ireturn, 1) := by decide +kernel
theorem dL_law_651 : decode cL_law 651 = .ok (.aload_n 1, 1) := by decide +kernel
theorem dL_law_652 : decode cL_law 652 = .ok (.aload_n 0, 1) := by decide +kernel
theorem dL_law_653 : decode cL_law 653 = .ok (.iload_n 3, 1) := by decide +kernel
theorem dL_law_654 : decode cL_law 654 = .ok (.iconst 1, 1) := by decide +kernel
theorem dL_law_655 : decode cL_law 655 = .ok (.iadd, 1) := by decide +kernel
theorem dL_law_656 : decode cL_law 656 = .ok (.iaload, 1) := by decide +kernel
theorem dL_law_657 : decode cL_law 657 = .ok (.invokevirtual 92, 3) := by decide +kernel
theorem dL_law_660 : decode cL_law 660 = .ok (.aload_n 2, 1) := by decide +kernel
theorem dL_law_661 : decode cL_law 661 = .ok (.aload_n 0, 1) := by decide +kernel
theorem dL_law_662 : decode cL_law 662 = .ok (.iload_n 3, 1) := by decide +kernel
theorem dL_law_663 : decode cL_law 663 = .ok (.iconst 1, 1) := by decide +kernel
theorem dL_law_664 : decode cL_law 664 = .ok (.iadd, 1) := by decide +kernel
theorem dL_law_665 : decode cL_law 665 = .ok (.iaload, 1) := by decide +kernel
theorem dL_law_666 : decode cL_law 666 = .ok (.invokevirtual 95, 3) := by decide +kernel
theorem dL_law_669 : decode cL_law 669 = .ok (.if_icmp .eq 337, 3) := by decide +kernel
theorem dL_law_672 : decode cL_law 672 = .ok (.iconst 0, 1) := by decide +kernel
theorem dL_law_673 : decode cL_law 673 = .ok (.ireturn, 1) := by decide +kernel
theorem dL_law_674 : decode cL_law 674 = .ok (.aload_n 1, 1) := by decide +kernel
theorem dL_law_675 : decode cL_law 675 = .ok (.aload_n 0, 1) := by decide +kernel
theorem dL_law_676 : decode cL_law 676 = .ok (.iload_n 3, 1) := by decide +kernel
theorem dL_law_677 : decode cL_law 677 = .ok (.iconst 1, 1) := by decide +kernel
theorem dL_law_678 : decode cL_law 678 = .ok (.iadd, 1) := by decide +kernel
theorem dL_law_679 : decode cL_law 679 = .ok (.iaload, 1) := by decide +kernel
theorem dL_law_680 : decode cL_law 680 = .ok (.invokevirtual 96, 3) := by decide +kernel
theorem dL_law_683 : decode cL_law 683 = .ok (.aload_n 2, 1) := by decide +kernel
theorem dL_law_684 : decode cL_law 684 = .ok (.aload_n 0, 1) := by decide +kernel
theorem dL_law_685 : decode cL_law 685 = .ok (.iload_n 3, 1) := by decide +kernel
theorem dL_law_686 : decode cL_law 686 = .ok (.iconst 1, 1) := by decide +kernel
theorem dL_law_687 : decode cL_law 687 = .ok (.iadd, 1) := by decide +kernel
theorem dL_law_688 : decode cL_law 688 = .ok (.iaload, 1) := by decide +kernel
theorem dL_law_689 : decode cL_law 689 = .ok (.invokevirtual 99, 3) := by decide +kernel
theorem dL_law_692 : decode cL_law 692 = .ok (.if_icmp .eq 314, 3) := by decide +kernel
theorem dL_law_695 : decode cL_law 695 = .ok (.iconst 0, 1) := by decide +kernel
theorem dL_law_696 : decode cL_law 696 = .ok (.ireturn, 1) := by decide +kernel
theorem dL_law_697 : decode cL_law 697 = .ok (.aload_n 1, 1) := by decide +kernel
theorem dL_law_698 : decode cL_law 698 = .ok (.aload_n 0, 1) := by decide +kernel
theorem dL_law_699 : decode cL_law 699 = .ok (.iload_n 3, 1) := by decide +kernel
theorem dL_law_700 : decode cL_law 700 = .ok (.iconst 1, 1) := by decide +kernel
theorem dL_law_701 : decode cL_law 701 = .ok (.iadd, 1) := by decide +kernel
theorem dL_law_702 : decode cL_law 702 = .ok (.iaload, 1) := by decide +kernel
theorem dL_law_703 : decode cL_law 703 = .ok (.invokevirtual 100, 3) := by decide +kernel
theorem dL_law_706 : decode cL_law 706 = .ok (.aload_n 2, 1) := by decide +kernel
theorem dL_law_707 : decode cL_law 707 = .ok (.aload_n 0, 1) := by decide +kernel
theorem dL_law_708 : decode cL_law 708 = .ok (.iload_n 3, 1) := by decide +kernel
theorem dL_law_709 : decode cL_law 709 = .ok (.iconst 1, 1) := by decide +kernel
theorem dL_law_710 : decode cL_law 710 = .ok (.iadd, 1) := by decide +kernel
theorem dL_law_711 : decode cL_law 711 = .ok (.iaload, 1) := by decide +kernel
theorem dL_law_712 : decode cL_law 712 = .ok (.invokevirtual 103, 3) := by decide +kernel
theorem dL_law_715 : decode cL_law 715 = .ok (.if_icmp .eq 291, 3) := by decide +kernel
theorem dL_law_718 : decode cL_law 718 = .ok (.iconst 0, 1) := by decide +kernel
theorem dL_law_719 : decode cL_law 719 = .ok (.ireturn, 1) := by decide +kernel
theorem dL_law_720 : decode cL_law 720 = .ok (.aload_n 1, 1) := by decide +kernel
theorem dL_law_721 : decode cL_law 721 = .ok (.aload_n 0, 1) := by decide +kernel
theorem dL_law_722 : decode cL_law 722 = .ok (.iload_n 3, 1) := by decide +kernel
theorem dL_law_723 : decode cL_law 723 = .ok (.iconst 1, 1) := by decide +kernel
theorem dL_law_724 : decode cL_law 724 = .ok (.iadd, 1) := by decide +kernel
theorem dL_law_725 : decode cL_law 725 = .ok (.iaload, 1) := by decide +kernel
theorem dL_law_726 : decode cL_law 726 = .ok (.invokevirtual 104, 3) := by decide +kernel
theorem dL_law_729 : decode cL_law 729 = .ok (.aload_n 2, 1) := by decide +kernel
theorem dL_law_730 : decode cL_law 730 = .ok (.aload_n 0, 1) := by decide +kernel
theorem dL_law_731 : decode cL_law 731 = .ok (.iload_n 3, 1) := by decide +kernel
theorem dL_law_732 : decode cL_law 732 = .ok (.iconst 1, 1) := by decide +kernel
theorem dL_law_733 : decode cL_law 733 = .ok (.iadd, 1) := by decide +kernel
theorem dL_law_734 : decode cL_law 734 = .ok (.iaload, 1) := by decide +kernel
theorem dL_law_735 : decode cL_law 735 = .ok (.invokevirtual 107, 3) := by decide +kernel
theorem dL_law_738 : decode cL_law 738 = .ok (.if_icmp .eq 268, 3) := by decide +kernel
theorem dL_law_741 : decode cL_law 741 = .ok (.iconst 0, 1) := by decide +kernel
theorem dL_law_742 : decode cL_law 742 = .ok (.ireturn, 1) := by decide +kernel
theorem dL_law_743 : decode cL_law 743 = .ok (.aload_n 1, 1) := by decide +kernel
theorem dL_law_744 : decode cL_law 744 = .ok (.aload_n 0, 1) := by decide +kernel
theorem dL_law_745 : decode cL_law 745 = .ok (.iload_n 3, 1) := by decide +kernel
theorem dL_law_746 : decode cL_law 746 = .ok (.iconst 1, 1) := by decide +kernel
theorem dL_law_747 : decode cL_law 747 = .ok (.iadd, 1) := by decide +kernel
theorem dL_law_748 : decode cL_law 748 = .ok (.iaload, 1) := by decide +kernel
theorem dL_law_749 : decode cL_law 749 = .ok (.aload_n 0, 1) := by decide +kernel
theorem dL_law_750 : decode cL_law 750 = .ok (.iload_n 3, 1) := by decide +kernel
theorem dL_law_751 : decode cL_law 751 = .ok (.iconst 2, 1) := by decide +kernel
theorem dL_law_752 : decode cL_law 752 = .ok (.iadd, 1) := by decide +kernel
theorem dL_law_753 : decode cL_law 753 = .ok (.iaload, 1) := by decide +kernel
theorem dL_law_754 : decode cL_law 754 = .ok (.invokevirtual 108, 3) := by decide +kernel
theorem dL_law_757 : decode cL_law 757 = .ok (.aload_n 2, 1) := by decide +kernel
theorem dL_law_758 : decode cL_law 758 = .ok (.aload_n 0, 1) := by decide +kernel
theorem dL_law_759 : decode cL_law 759 = .ok (.iload_n 3, 1) := by decide +kernel
theorem dL_law_760 : decode cL_law 760 = .ok (.iconst 1, 1) := by decide +kernel
theorem dL_law_761 : decode cL_law 761 = .ok (.iadd, 1) := by decide +kernel
theorem dL_law_762 : decode cL_law 762 = .ok (.iaload, 1) := by decide +kernel
theorem dL_law_763 : decode cL_law 763 = .ok (.aload_n 0, 1) := by decide +kernel
theorem dL_law_764 : decode cL_law 764 = .ok (.iload_n 3, 1) := by decide +kernel
theorem dL_law_765 : decode cL_law 765 = .ok (.iconst 2, 1) := by decide +kernel
theorem dL_law_766 : decode cL_law 766 = .ok (.iadd, 1) := by decide +kernel
theorem dL_law_767 : decode cL_law 767 = .ok (.iaload, 1) := by decide +kernel
theorem dL_law_768 : decode cL_law 768 = .ok (.invokevirtual 111, 3) := by decide +kernel
theorem dL_law_771 : decode cL_law 771 = .ok (.if_icmp .eq 235, 3) := by decide +kernel
theorem dL_law_774 : decode cL_law 774 = .ok (.iconst 0, 1) := by decide +kernel
theorem dL_law_775 : decode cL_law 775 = .ok (.ireturn, 1) := by decide +kernel
theorem dL_law_776 : decode cL_law 776 = .ok (.aload_n 1, 1) := by decide +kernel
theorem dL_law_777 : decode cL_law 777 = .ok (.aload_n 0, 1) := by decide +kernel
theorem dL_law_778 : decode cL_law 778 = .ok (.iload_n 3, 1) := by decide +kernel
theorem dL_law_779 : decode cL_law 779 = .ok (.iconst 1, 1) := by decide +kernel
theorem dL_law_780 : decode cL_law 780 = .ok (.iadd, 1) := by decide +kernel
theorem dL_law_781 : decode cL_law 781 = .ok (.iaload, 1) := by decide +kernel
theorem dL_law_782 : decode cL_law 782 = .ok (.aload_n 0, 1) := by decide +kernel
theorem dL_law_783 : decode cL_law 783 = .ok (.iload_n 3, 1) := by decide +kernel
theorem dL_law_784 : decode cL_law 784 = .ok (.iconst 2, 1) := by decide +kernel
theorem dL_law_785 : decode cL_law 785 = .ok (.iadd, 1) := by decide +kernel
theorem dL_law_786 : decode cL_law 786 = .ok (.iaload, 1) := by decide +kernel
theorem dL_law_787 : decode cL_law 787 = .ok (.invokevirtual 112, 3) := by decide +kernel
theorem dL_law_790 : decode cL_law 790 = .ok (.aload_n 2, 1) := by decide +kernel
theorem dL_law_791 : decode cL_law 791 = .ok (.aload_n 0, 1) := by decide +kernel
theorem dL_law_792 : decode cL_law 792 = .ok (.iload_n 3, 1) := by decide +kernel
theorem dL_law_793 : decode cL_law 793 = .ok (.iconst 1, 1) := by decide +kernel
theorem dL_law_794 : decode cL_law 794 = .ok (.iadd, 1) := by decide +kernel
theorem dL_law_795 : decode cL_law 795 = .ok (.iaload, 1) := by decide +kernel
theorem dL_law_796 : decode cL_law 796 = .ok (.aload_n 0, 1) := by decide +kernel
theorem dL_law_797 : decode cL_law 797 = .ok (.iload_n 3, 1) := by decide +kernel
theorem dL_law_798 : decode cL_law 798 = .ok (.iconst 2, 1) := by decide +kernel
theorem dL_law_799 : decode cL_law 799 = .ok (.iadd, 1) := by decide +kernel
theorem dL_law_800 : decode cL_law 800 = .ok (.iaload, 1) := by decide +kernel
theorem dL_law_801 : decode cL_law 801 = .ok (.invokevirtual 115, 3) := by decide +kernel
theorem dL_law_804 : decode cL_law 804 = .ok (.if_icmp .eq 202, 3) := by decide +kernel
theorem dL_law_807 : decode cL_law 807 = .ok (.iconst 0, 1) := by decide +kernel
theorem dL_law_808 : decode cL_law 808 = .ok (.ireturn, 1) := by decide +kernel
theorem dL_law_809 : decode cL_law 809 = .ok (.aload_n 1, 1) := by decide +kernel
theorem dL_law_810 : decode cL_law 810 = .ok (.aload_n 0, 1) := by decide +kernel
theorem dL_law_811 : decode cL_law 811 = .ok (.iload_n 3, 1) := by decide +kernel
theorem dL_law_812 : decode cL_law 812 = .ok (.iconst 1, 1) := by decide +kernel
theorem dL_law_813 : decode cL_law 813 = .ok (.iadd, 1) := by decide +kernel
theorem dL_law_814 : decode cL_law 814 = .ok (.iaload, 1) := by decide +kernel
theorem dL_law_815 : decode cL_law 815 = .ok (.invokevirtual 116, 3) := by decide +kernel
theorem dL_law_818 : decode cL_law 818 = .ok (.aload_n 2, 1) := by decide +kernel
theorem dL_law_819 : decode cL_law 819 = .ok (.aload_n 0, 1) := by decide +kernel
theorem dL_law_820 : decode cL_law 820 = .ok (.iload_n 3, 1) := by decide +kernel
theorem dL_law_821 : decode cL_law 821 = .ok (.iconst 1, 1) := by decide +kernel
theorem dL_law_822 : decode cL_law 822 = .ok (.iadd, 1) := by decide +kernel
theorem dL_law_823 : decode cL_law 823 = .ok (.iaload, 1) := by decide +kernel
theorem dL_law_824 : decode cL_law 824 = .ok (.invokevirtual 119, 3) := by decide +kernel
theorem dL_law_827 : decode cL_law 827 = .ok (.if_icmp .eq 179, 3) := by decide +kernel
theorem dL_law_830 : decode cL_law 830 = .ok (.iconst 0, 1) := by decide +kernel
theorem dL_law_831 : decode cL_law 831 = .ok (.ireturn, 1) := by decide +kernel
theorem dL_law_832 : decode cL_law 832 = .ok (.aload_n 1, 1) := by decide +kernel
theorem dL_law_833 : decode cL_law 833 = .ok (.aload_n 0, 1) := by decide +kernel
theorem dL_law_834 : decode cL_law 834 = .ok (.iload_n 3, 1) := by decide +kernel
theorem dL_law_835 : decode cL_law 835 = .ok (.iconst 1, 1) := by decide +kernel
theorem dL_law_836 : decode cL_law 836 = .ok (.iadd, 1) := by decide +kernel
theorem dL_law_837 : decode cL_law 837 = .ok (.iaload, 1) := by decide +kernel
theorem dL_law_838 : decode cL_law 838 = .ok (.invokevirtual 120, 3) := by decide +kernel
theorem dL_law_841 : decode cL_law 841 = .ok (.aload_n 2, 1) := by decide +kernel
theorem dL_law_842 : decode cL_law 842 = .ok (.aload_n 0, 1) := by decide +kernel
theorem dL_law_843 : decode cL_law 843 = .ok (.iload_n 3, 1) := by decide +kernel
theorem dL_law_844 : decode cL_law 844 = .ok (.iconst 1, 1) := by decide +kernel
theorem dL_law_845 : decode cL_law 845 = .ok (.iadd, 1) := by decide +kernel
theorem dL_law_846 : decode cL_law 846 = .ok (.iaload, 1) := by decide +kernel
theorem dL_law_847 : decode cL_law 847 = .ok (.invokevirtual 123, 3) := by decide +kernel
theorem dL_law_850 : decode cL_law 850 = .ok (.if_icmp .eq 156, 3) := by decide +kernel
theorem dL_law_853 : decode cL_law 853 = .ok (.iconst 0, 1) := by decide +kernel
theorem dL_law_854 : decode cL_law 854 = .ok (.ireturn, 1) := by decide +kernel
theorem dL_law_855 : decode cL_law 855 = .ok (.aload_n 1, 1) := by decide +kernel
theorem dL_law_856 : decode cL_law 856 = .ok (.aload_n 0, 1) := by decide +kernel
theorem dL_law_857 : decode cL_law 857 = .ok (.iload_n 3, 1) := by decide +kernel
theorem dL_law_858 : decode cL_law 858 = .ok (.iconst 1, 1) := by decide +kernel
theorem dL_law_859 : decode cL_law 859 = .ok (.iadd, 1) := by decide +kernel
theorem dL_law_860 : decode cL_law 860 = .ok (.iaload, 1) := by decide +kernel
theorem dL_law_861 : decode cL_law 861 = .ok (.invokevirtual 124, 3) := by decide +kernel
theorem dL_law_864 : decode cL_law 864 = .ok (.aload_n 2, 1) := by decide +kernel
theorem dL_law_865 : decode cL_law 865 = .ok (.aload_n 0, 1) := by decide +kernel
theorem dL_law_866 : decode cL_law 866 = .ok (.iload_n 3, 1) := by decide +kernel
theorem dL_law_867 : decode cL_law 867 = .ok (.iconst 1, 1) := by decide +kernel
theorem dL_law_868 : decode cL_law 868 = .ok (.iadd, 1) := by decide +kernel
theorem dL_law_869 : decode cL_law 869 = .ok (.iaload, 1) := by decide +kernel
theorem dL_law_870 : decode cL_law 870 = .ok (.invokevirtual 127, 3) := by decide +kernel
theorem dL_law_873 : decode cL_law 873 = .ok (.if_icmp .eq 133, 3) := by decide +kernel
theorem dL_law_876 : decode cL_law 876 = .ok (.iconst 0, 1) := by decide +kernel
theorem dL_law_877 : decode cL_law 877 = .ok (.ireturn, 1) := by decide +kernel
theorem dL_law_878 : decode cL_law 878 = .ok (.aload_n 1, 1) := by decide +kernel
theorem dL_law_879 : decode cL_law 879 = .ok (.aload_n 0, 1) := by decide +kernel
theorem dL_law_880 : decode cL_law 880 = .ok (.iload_n 3, 1) := by decide +kernel
theorem dL_law_881 : decode cL_law 881 = .ok (.iconst 1, 1) := by decide +kernel
theorem dL_law_882 : decode cL_law 882 = .ok (.iadd, 1) := by decide +kernel
theorem dL_law_883 : decode cL_law 883 = .ok (.iaload, 1) := by decide +kernel
theorem dL_law_884 : decode cL_law 884 = .ok (.aload_n 0, 1) := by decide +kernel
theorem dL_law_885 : decode cL_law 885 = .ok (.iload_n 3, 1) := by decide +kernel
theorem dL_law_886 : decode cL_law 886 = .ok (.iconst 2, 1) := by decide +kernel
theorem dL_law_887 : decode cL_law 887 = .ok (.iadd, 1) := by decide +kernel
theorem dL_law_888 : decode cL_law 888 = .ok (.iaload, 1) := by decide +kernel
theorem dL_law_889 : decode cL_law 889 = .ok (.invokevirtual 128, 3) := by decide +kernel
theorem dL_law_892 : decode cL_law 892 = .ok (.aload_n 2, 1) := by decide +kernel
theorem dL_law_893 : decode cL_law 893 = .ok (.aload_n 0, 1) := by decide +kernel
theorem dL_law_894 : decode cL_law 894 = .ok (.iload_n 3, 1) := by decide +kernel
theorem dL_law_895 : decode cL_law 895 = .ok (.iconst 1, 1) := by decide +kernel
theorem dL_law_896 : decode cL_law 896 = .ok (.iadd, 1) := by decide +kernel
theorem dL_law_897 : decode cL_law 897 = .ok (.iaload, 1) := by decide +kernel
theorem dL_law_898 : decode cL_law 898 = .ok (.aload_n 0, 1) := by decide +kernel
theorem dL_law_899 : decode cL_law 899 = .ok (.iload_n 3, 1) := by decide +kernel
theorem dL_law_900 : decode cL_law 900 = .ok (.iconst 2, 1) := by decide +kernel
theorem dL_law_901 : decode cL_law 901 = .ok (.iadd, 1) := by decide +kernel
theorem dL_law_902 : decode cL_law 902 = .ok (.iaload, 1) := by decide +kernel
theorem dL_law_903 : decode cL_law 903 = .ok (.invokevirtual 131, 3) := by decide +kernel
theorem dL_law_906 : decode cL_law 906 = .ok (.if_icmp .eq 100, 3) := by decide +kernel
theorem dL_law_909 : decode cL_law 909 = .ok (.iconst 0, 1) := by decide +kernel
theorem dL_law_910 : decode cL_law 910 = .ok (.ireturn, 1) := by decide +kernel
theorem dL_law_911 : decode cL_law 911 = .ok (.aload_n 1, 1) := by decide +kernel
theorem dL_law_912 : decode cL_law 912 = .ok (.invokevirtual 132, 3) := by decide +kernel
theorem dL_law_915 : decode cL_law 915 = .ok (.aload_n 2, 1) := by decide +kernel
theorem dL_law_916 : decode cL_law 916 = .ok (.invokevirtual 135, 3) := by decide +kernel
theorem dL_law_919 : decode cL_law 919 = .ok (.if_icmp .eq 87, 3) := by decide +kernel
theorem dL_law_922 : decode cL_law 922 = .ok (.iconst 0, 1) := by decide +kernel
theorem dL_law_923 : decode cL_law 923 = .ok (.ireturn, 1) := by decide +kernel
theorem dL_law_924 : decode cL_law 924 = .ok (.aload_n 1, 1) := by decide +kernel
theorem dL_law_925 : decode cL_law 925 = .ok (.invokevirtual 136, 3) := by decide +kernel
theorem dL_law_928 : decode cL_law 928 = .ok (.aload_n 2, 1) := by decide +kernel
theorem dL_law_929 : decode cL_law 929 = .ok (.invokevirtual 139, 3) := by decide +kernel
theorem dL_law_932 : decode cL_law 932 = .ok (.if_icmp .eq 74, 3) := by decide +kernel
theorem dL_law_935 : decode cL_law 935 = .ok (.iconst 0, 1) := by decide +kernel
theorem dL_law_936 : decode cL_law 936 = .ok (.ireturn, 1) := by decide +kernel
theorem dL_law_937 : decode cL_law 937 = .ok (.aload_n 1, 1) := by decide +kernel
theorem dL_law_938 : decode cL_law 938 = .ok (.aload_n 0, 1) := by decide +kernel
theorem dL_law_939 : decode cL_law 939 = .ok (.iload_n 3, 1) := by decide +kernel
theorem dL_law_940 : decode cL_law 940 = .ok (.iconst 1, 1) := by decide +kernel
theorem dL_law_941 : decode cL_law 941 = .ok (.iadd, 1) := by decide +kernel
theorem dL_law_942 : decode cL_law 942 = .ok (.iaload, 1) := by decide +kernel
theorem dL_law_943 : decode cL_law 943 = .ok (.invokevirtual 140, 3) := by decide +kernel
theorem dL_law_946 : decode cL_law 946 = .ok (.aload_n 2, 1) := by decide +kernel
theorem dL_law_947 : decode cL_law 947 = .ok (.aload_n 0, 1) := by decide +kernel
theorem dL_law_948 : decode cL_law 948 = .ok (.iload_n 3, 1) := by decide +kernel
theorem dL_law_949 : decode cL_law 949 = .ok (.iconst 1, 1) := by decide +kernel
theorem dL_law_950 : decode cL_law 950 = .ok (.iadd, 1) := by decide +kernel
theorem dL_law_951 : decode cL_law 951 = .ok (.iaload, 1) := by decide +kernel
theorem dL_law_952 : decode cL_law 952 = .ok (.invokevirtual 143, 3) := by decide +kernel
theorem dL_law_955 : decode cL_law 955 = .ok (.if_icmp .eq 51, 3) := by decide +kernel
theorem dL_law_958 : decode cL_law 958 = .ok (.iconst 0, 1) := by decide +kernel
theorem dL_law_959 : decode cL_law 959 = .ok (.ireturn, 1) := by decide +kernel
theorem dL_law_960 : decode cL_law 960 = .ok (.aload_n 1, 1) := by decide +kernel
theorem dL_law_961 : decode cL_law 961 = .ok (.aload_n 0, 1) := by decide +kernel
theorem dL_law_962 : decode cL_law 962 = .ok (.iload_n 3, 1) := by decide +kernel
theorem dL_law_963 : decode cL_law 963 = .ok (.iconst 1, 1) := by decide +kernel
theorem dL_law_964 : decode cL_law 964 = .ok (.iadd, 1) := by decide +kernel
theorem dL_law_965 : decode cL_law 965 = .ok (.iaload, 1) := by decide +kernel
theorem dL_law_966 : decode cL_law 966 = .ok (.invokevirtual 144, 3) := by decide +kernel
theorem dL_law_969 : decode cL_law 969 = .ok (.aload_n 2, 1) := by decide +kernel
theorem dL_law_970 : decode cL_law 970 = .ok (.aload_n 0, 1) := by decide +kernel
theorem dL_law_971 : decode cL_law 971 = .ok (.iload_n 3, 1) := by decide +kernel
theorem dL_law_972 : decode cL_law 972 = .ok (.iconst 1, 1) := by decide +kernel
theorem dL_law_973 : decode cL_law 973 = .ok (.iadd, 1) := by decide +kernel
theorem dL_law_974 : decode cL_law 974 = .ok (.iaload, 1) := by decide +kernel
theorem dL_law_975 : decode cL_law 975 = .ok (.invokevirtual 147, 3) := by decide +kernel
theorem dL_law_978 : decode cL_law 978 = .ok (.if_icmp .eq 28, 3) := by decide +kernel
theorem dL_law_981 : decode cL_law 981 = .ok (.iconst 0, 1) := by decide +kernel
theorem dL_law_982 : decode cL_law 982 = .ok (.ireturn, 1) := by decide +kernel
theorem dL_law_983 : decode cL_law 983 = .ok (.aload_n 1, 1) := by decide +kernel
theorem dL_law_984 : decode cL_law 984 = .ok (.aload_n 0, 1) := by decide +kernel
theorem dL_law_985 : decode cL_law 985 = .ok (.iload_n 3, 1) := by decide +kernel
theorem dL_law_986 : decode cL_law 986 = .ok (.iconst 1, 1) := by decide +kernel
theorem dL_law_987 : decode cL_law 987 = .ok (.iadd, 1) := by decide +kernel
theorem dL_law_988 : decode cL_law 988 = .ok (.iaload, 1) := by decide +kernel
theorem dL_law_989 : decode cL_law 989 = .ok (.invokevirtual 148, 3) := by decide +kernel
theorem dL_law_992 : decode cL_law 992 = .ok (.aload_n 2, 1) := by decide +kernel
theorem dL_law_993 : decode cL_law 993 = .ok (.aload_n 0, 1) := by decide +kernel
theorem dL_law_994 : decode cL_law 994 = .ok (.iload_n 3, 1) := by decide +kernel
theorem dL_law_995 : decode cL_law 995 = .ok (.iconst 1, 1) := by decide +kernel
theorem dL_law_996 : decode cL_law 996 = .ok (.iadd, 1) := by decide +kernel
theorem dL_law_997 : decode cL_law 997 = .ok (.iaload, 1) := by decide +kernel
theorem dL_law_998 : decode cL_law 998 = .ok (.invokevirtual 151, 3) := by decide +kernel
theorem dL_law_1001 : decode cL_law 1001 = .ok (.if_icmp .eq 5, 3) := by decide +kernel
theorem dL_law_1004 : decode cL_law 1004 = .ok (.iconst 0, 1) := by decide +kernel
theorem dL_law_1005 : decode cL_law 1005 = .ok (.ireturn, 1) := by decide +kernel
theorem dL_law_1006 : decode cL_law 1006 = .ok (.iinc 3 3, 3) := by decide +kernel
theorem dL_law_1009 : decode cL_law 1009 = .ok (.goto (-991), 3) := by decide +kernel
theorem dL_law_1012 : decode cL_law 1012 = .ok (.iconst 1, 1) := by decide +kernel
theorem dL_law_1013 : decode cL_law 1013 = .ok (.ireturn, 1) := by decide +kernel
