theorem dM_at_0 : decode cM_at 0 = .ok (.aload_n 0, 1) := by decide +kernel
theorem dM_at_1 : decode cM_at 1 = .ok (.iload_n 1, 1) := by decide +kernel
theorem dM_at_2 : decode cM_at 2 = .ok (.invokevirtual 66, 3) := by decide +kernel
theorem dM_at_5 : decode cM_at 5 = .ok (.istore_n 3, 1) := by decide +kernel
theorem dM_at_6 : decode cM_at 6 = .ok (.aload_n 0, 1) := by decide +kernel
theorem dM_at_7 : decode cM_at 7 = .ok (.iload_n 3, 1) := by decide +kernel
theorem dM_at_8 : decode cM_at 8 = .ok (.ifCond .lt 21, 3) := by decide +kernel
theorem dM_at_11 : decode cM_at 11 = .ok (.iload_n 2, 1) := by decide +kernel
theorem dM_at_12 : decode cM_at 12 = .ok (.ifCond .lt 17, 3) := by decide +kernel
theorem dM_at_15 : decode cM_at 15 = .ok (.iload_n 2, 1) := by decide +kernel
theorem dM_at_16 : decode cM_at 16 = .ok (.aload_n 0, 1) := by decide +kernel
theorem dM_at_17 : decode cM_at 17 = .ok (.getfield 26, 3) := by decide +kernel
theorem dM_at_20 : decode cM_at 20 = .ok (.iload_n 3, 1) := by decide +kernel
theorem dM_at_21 : decode cM_at 21 = .ok (.iaload, 1) := by decide +kernel
theorem dM_at_22 : decode cM_at 22 = .ok (.if_icmp .ge 7, 3) := by decide +kernel
theorem dM_at_25 : decode cM_at 25 = .ok (.iconst 1, 1) := by decide +kernel
theorem dM_at_26 : decode cM_at 26 = .ok (.goto 4, 3) := by decide +kernel
theorem dM_at_29 : decode cM_at 29 = .ok (.iconst 0, 1) := by decide +kernel
theorem dM_at_30 : decode cM_at 30 = .ok (.invokevirtual 50, 3) := by decide +kernel
theorem dM_at_33 : decode cM_at 33 = .ok (.ifCond .ne 5, 3) := by decide +kernel
theorem dM_at_36 : decode cM_at 36 = .ok (.iconst 0, 1) := by decide +kernel
theorem dM_at_37 : decode cM_at 37 = .ok (.ireturn, 1) := by decide +kernel
theorem dM_at_38 : decode cM_at 38 = .ok (.aload_n 0, 1) := by decide +kernel
theorem dM_at_39 : decode cM_at 39 = .ok (.getfield 23, 3) := by decide +kernel
theorem dM_at_42 : decode cM_at 42 = .ok (.bipush 42, 2) := by decide +kernel
theorem dM_at_44 : decode cM_at 44 = .ok (.iload_n 3, 1) := by decide +kernel
theorem dM_at_45 : decode cM_at 45 = .ok (.imul, 1) := by decide +kernel
theorem dM_at_46 : decode cM_at 46 = .ok (.iload_n 2, 1) := by decide +kernel
theorem dM_at_47 : decode cM_at 47 = .ok (.iadd, 1) := by decide +kernel
theorem dM_at_48 : decode cM_at 48 = .ok (.iaload, 1) := by decide +kernel
theorem dM_at_49 : decode cM_at 49 = .ok (.istore 4, 2) := by decide +kernel
theorem dM_at_51 : decode cM_at 51 = .ok (.aload_n 0, 1) := by decide +kernel
theorem dM_at_52 : decode cM_at 52 = .ok (.getfield 16, 3) := by decide +kernel
theorem dM_at_55 : decode cM_at 55 = .ok (.iload_n 3, 1) := by decide +kernel
theorem dM_at_56 : decode cM_at 56 = .ok (.iaload, 1) := by decide +kernel
theorem dM_at_57 : decode cM_at 57 = .ok (.iconst 2, 1) := by decide +kernel
theorem dM_at_58 : decode cM_at 58 = .ok (.if_icmp .ge 8, 3) := by decide +kernel
theorem dM_at_61 : decode cM_at 61 = .ok (.iload 4, 2) := by decide +kernel
theorem dM_at_63 : decode cM_at 63 = .ok (.goto 23, 3) := by decide +kernel
theorem dM_at_66 : decode cM_at 66 = .ok (.iload 4, 2) := by decide +kernel
theorem dM_at_68 : decode cM_at 68 = .ok (.bipush 10, 2) := by decide +kernel
theorem dM_at_70 : decode cM_at 70 = .ok (.if_icmp .ge 11, 3) := by decide +kernel
theorem dM_at_73 : decode cM_at 73 = .ok (.bipush 48, 2) := by decide +kernel
theorem dM_at_75 : decode cM_at 75 = .ok (.iload 4, 2) := by decide +kernel
theorem dM_at_77 : decode cM_at 77 = .ok (.iadd, 1) := by decide +kernel
theorem dM_at_78 : decode cM_at 78 = .ok (.goto 8, 3) := by decide +kernel
theorem dM_at_81 : decode cM_at 81 = .ok (.bipush 55, 2) := by decide +kernel
theorem dM_at_83 : decode cM_at 83 = .ok (.iload 4, 2) := by decide +kernel
theorem dM_at_85 : decode cM_at 85 = .ok (.iadd, 1) := by decide +kernel
theorem dM_at_86 : decode cM_at 86 = .ok (.ireturn, 1) := by decide +kernel
theorem dM_begin_0 : decode cM_begin 0 = .ok (.aload_n 0, 1) := by decide +kernel
theorem dM_begin_1 : decode cM_begin 1 = .ok (.iload_n 1, 1) := by decide +kernel
theorem dM_begin_2 : decode cM_begin 2 = .ok (.putfield 19, 3) := by decide +kernel
theorem dM_begin_5 : decode cM_begin 5 = .ok (.aload_n 0, 1) := by decide +kernel
theorem dM_begin_6 : decode cM_begin 6 = .ok (.getfield 26, 3) := by decide +kernel
theorem dM_begin_9 : decode cM_begin 9 = .ok (.invokestatic 41, 3) := by decide +kernel
theorem dM_begin_12 : decode cM_begin 12 = .ok (.return_, 1) := by decide +kernel
theorem dM_clear_0 : decode cM_clear 0 = .ok (.iconst 0, 1) := by decide +kernel
theorem dM_clear_1 : decode cM_clear 1 = .ok (.istore_n 1, 1) := by decide +kernel
theorem dM_clear_2 : decode cM_clear 2 = .ok (.iload_n 1, 1) := by decide +kernel
theorem dM_clear_3 : decode cM_clear 3 = .ok (.bipush 16, 2) := by decide +kernel
theorem dM_clear_5 : decode cM_clear 5 = .ok (.if_icmp .ge 13, 3) := by decide +kernel
theorem dM_clear_8 : decode cM_clear 8 = .ok (.aload_n 0, 1) := by decide +kernel
theorem dM_clear_9 : decode cM_clear 9 = .ok (.iload_n 1, 1) := by decide +kernel
theorem dM_clear_10 : decode cM_clear 10 = .ok (.iconst (-1), 1) := by decide +kernel
theorem dM_clear_11 : decode cM_clear 11 = .ok (.iastore, 1) := by decide +kernel
theorem dM_clear_12 : decode cM_clear 12 = .ok (.iinc 1 1, 3) := by decide +kernel
theorem dM_clear_15 : decode cM_clear 15 = .ok (.goto (-13), 3) := by decide +kernel
theorem dM_clear_18 : decode cM_clear 18 = .ok (.return_, 1) := by decide +kernel
theorem dM_compose_0 : decode cM_compose 0 = .ok (.aload_n 0, 1) := by decide +kernel
theorem dM_compose_1 : decode cM_compose 1 = .ok (.iconst 0, 1) := by decide +kernel
theorem dM_compose_2 : decode cM_compose 2 = .ok (.putfield 45, 3) := by decide +kernel
theorem dM_compose_5 : decode cM_compose 5 = .ok (.aload_n 0, 1) := by decide +kernel
theorem dM_compose_6 : decode cM_compose 6 = .ok (.aload_n 0, 1) := by decide +kernel
theorem dM_compose_7 : decode cM_compose 7 = .ok (.getfield 19, 3) := by decide +kernel
theorem dM_compose_10 : decode cM_compose 10 = .ok (.aload_n 0, 1) := by decide +kernel
theorem dM_compose_11 : decode cM_compose 11 = .ok (.getfield 23, 3) := by decide +kernel
theorem dM_compose_14 : decode cM_compose 14 = .ok (.aload_n 0, 1) := by decide +kernel
theorem dM_compose_15 : decode cM_compose 15 = .ok (.getfield 26, 3) := by decide +kernel
theorem dM_compose_18 : decode cM_compose 18 = .ok (.aload_n 0, 1) := by decide +kernel
theorem dM_compose_19 : decode cM_compose 19 = .ok (.getfield 35, 3) := by decide +kernel
theorem dM_compose_22 : decode cM_compose 22 = .ok (.invokevirtual 95, 3) := by decide +kernel
theorem dM_compose_25 : decode cM_compose 25 = .ok (.aload_n 0, 1) := by decide +kernel
theorem dM_compose_26 : decode cM_compose 26 = .ok (.aload_n 0, 1) := by decide +kernel
theorem dM_compose_27 : decode cM_compose 27 = .ok (.getfield 84, 3) := by decide +kernel
theorem dM_compose_30 : decode cM_compose 30 = .ok (.putfield 99, 3) := by decide +kernel
theorem dM_compose_33 : decode cM_compose 33 = .ok (.aload_n 0, 1) := by decide +kernel
theorem dM_compose_34 : decode cM_compose 34 = .ok (.getfield 99, 3) := by decide +kernel
theorem dM_compose_37 : decode cM_compose 37 = .ok (.ireturn, 1) := by decide +kernel
theorem dM_digits_0 : decode cM_digits 0 = .ok (.aload_n 0, 1) := by decide +kernel
theorem dM_digits_1 : decode cM_digits 1 = .ok (.iload_n 1, 1) := by decide +kernel
theorem dM_digits_2 : decode cM_digits 2 = .ok (.invokevirtual 66, 3) := by decide +kernel
theorem dM_digits_5 : decode cM_digits 5 = .ok (.istore 4, 2) := by decide +kernel
theorem dM_digits_7 : decode cM_digits 7 = .ok (.aload_n 0, 1) := by decide +kernel
theorem dM_digits_8 : decode cM_digits 8 = .ok (.iload 4, 2) := by decide +kernel
theorem dM_digits_10 : decode cM_digits 10 = .ok (.ifCond .lt 38, 3) := by decide +kernel
theorem dM_digits_13 : decode cM_digits 13 = .ok (.aload_n 0, 1) := by decide +kernel
theorem dM_digits_14 : decode cM_digits 14 = .ok (.getfield 16, 3) := by decide +kernel
theorem dM_digits_17 : decode cM_digits 17 = .ok (.iload 4, 2) := by decide +kernel
theorem dM_digits_19 : decode cM_digits 19 = .ok (.iaload, 1) := by decide +kernel
theorem dM_digits_20 : decode cM_digits 20 = .ok (.iconst 2, 1) := by decide +kernel
theorem dM_digits_21 : decode cM_digits 21 = .ok (.if_icmp .ge 27, 3) := by decide +kernel
theorem dM_digits_24 : decode cM_digits 24 = .ok (.lload_n 2, 1) := by decide +kernel
theorem dM_digits_25 : decode cM_digits 25 = .ok (.lconst 0, 1) := by decide +kernel
theorem dM_digits_26 : decode cM_digits 26 = .ok (.lcmp, 1) := by decide +kernel
theorem dM_digits_27 : decode cM_digits 27 = .ok (.ifCond .lt 21, 3) := by decide +kernel
theorem dM_digits_30 : decode cM_digits 30 = .ok (.lload_n 2, 1) := by decide +kernel
theorem dM_digits_31 : decode cM_digits 31 = .ok (.invokestatic 58, 3) := by decide +kernel
theorem dM_digits_34 : decode cM_digits 34 = .ok (.aload_n 0, 1) := by decide +kernel
theorem dM_digits_35 : decode cM_digits 35 = .ok (.getfield 13, 3) := by decide +kernel
theorem dM_digits_38 : decode cM_digits 38 = .ok (.iload 4, 2) := by decide +kernel
theorem dM_digits_40 : decode cM_digits 40 = .ok (.iaload, 1) := by decide +kernel
theorem dM_digits_41 : decode cM_digits 41 = .ok (.if_icmp .gt 7, 3) := by decide +kernel
theorem dM_digits_44 : decode cM_digits 44 = .ok (.iconst 1, 1) := by decide +kernel
theorem dM_digits_45 : decode cM_digits 45 = .ok (.goto 4, 3) := by decide +kernel
theorem dM_digits_48 : decode cM_digits 48 = .ok (.iconst 0, 1) := by decide +kernel
theorem dM_digits_49 : decode cM_digits 49 = .ok (.invokevirtual 50, 3) := by decide +kernel
theorem dM_digits_52 : decode cM_digits 52 = .ok (.ifCond .eq 10, 3) := by decide +kernel
theorem dM_digits_55 : decode cM_digits 55 = .ok (.aload_n 0, 1) := by decide +kernel
theorem dM_digits_56 : decode cM_digits 56 = .ok (.iload 4, 2) := by decide +kernel
theorem dM_digits_58 : decode cM_digits 58 = .ok (.lload_n 2, 1) := by decide +kernel
theorem dM_digits_59 : decode cM_digits 59 = .ok (.invokevirtual 70, 3) := by decide +kernel
theorem dM_digits_62 : decode cM_digits 62 = .ok (.return_, 1) := by decide +kernel
theorem dM_fails_0 : decode cM_fails 0 = .ok (.aload_n 0, 1) := by decide +kernel
theorem dM_fails_1 : decode cM_fails 1 = .ok (.getfield 102, 3) := by decide +kernel
theorem dM_fails_4 : decode cM_fails 4 = .ok (.ifCond .ne 13, 3) := by decide +kernel
theorem dM_fails_7 : decode cM_fails 7 = .ok (.aload_n 0, 1) := by decide +kernel
theorem dM_fails_8 : decode cM_fails 8 = .ok (.iload_n 1, 1) := by decide +kernel
theorem dM_fails_9 : decode cM_fails 9 = .ok (.putfield 102, 3) := by decide +kernel
theorem dM_fails_12 : decode cM_fails 12 = .ok (.aload_n 0, 1) := by decide +kernel
theorem dM_fails_13 : decode cM_fails 13 = .ok (.iload_n 2, 1) := by decide +kernel
theorem dM_fails_14 : decode cM_fails 14 = .ok (.putfield 105, 3) := by decide +kernel
theorem dM_fails_17 : decode cM_fails 17 = .ok (.return_, 1) := by decide +kernel
theorem dM_fault_0 : decode cM_fault 0 = .ok (.aload_n 0, 1) := by decide +kernel
theorem dM_fault_1 : decode cM_fault 1 = .ok (.iload_n 1, 1) := by decide +kernel
theorem dM_fault_2 : decode cM_fault 2 = .ok (.ifCond .eq 8, 3) := by decide +kernel
theorem dM_fault_5 : decode cM_fault 5 = .ok (.iload_n 1, 1) := by decide +kernel
theorem dM_fault_6 : decode cM_fault 6 = .ok (.iconst 1, 1) := by decide +kernel
theorem dM_fault_7 : decode cM_fault 7 = .ok (.if_icmp .ne 7, 3) := by decide +kernel
theorem dM_fault_10 : decode cM_fault 10 = .ok (.iconst 1, 1) := by decide +kernel
theorem dM_fault_11 : decode cM_fault 11 = .ok (.goto 4, 3) := by decide +kernel
theorem dM_fault_14 : decode cM_fault 14 = .ok (.iconst 0, 1) := by decide +kernel
theorem dM_fault_15 : decode cM_fault 15 = .ok (.invokevirtual 50, 3) := by decide +kernel
theorem dM_fault_18 : decode cM_fault 18 = .ok (.ifCond .ne 5, 3) := by decide +kernel
theorem dM_fault_21 : decode cM_fault 21 = .ok (.iconst 0, 1) := by decide +kernel
theorem dM_fault_22 : decode cM_fault 22 = .ok (.ireturn, 1) := by decide +kernel
theorem dM_fault_23 : decode cM_fault 23 = .ok (.aload_n 0, 1) := by decide +kernel
theorem dM_fault_24 : decode cM_fault 24 = .ok (.invokevirtual 135, 3) := by decide +kernel
theorem dM_fault_27 : decode cM_fault 27 = .ok (.iload_n 1, 1) := by decide +kernel
theorem dM_fault_28 : decode cM_fault 28 = .ok (.ifCond .ne 10, 3) := by decide +kernel
theorem dM_fault_31 : decode cM_fault 31 = .ok (.aload_n 0, 1) := by decide +kernel
theorem dM_fault_32 : decode cM_fault 32 = .ok (.getfield 102, 3) := by decide +kernel
theorem dM_fault_35 : decode cM_fault 35 = .ok (.goto 7, 3) := by decide +kernel
theorem dM_fault_38 : decode cM_fault 38 = .ok (.aload_n 0, 1) := by decide +kernel
theorem dM_fault_39 : decode cM_fault 39 = .ok (.getfield 105, 3) := by decide +kernel
theorem dM_fault_42 : decode cM_fault 42 = .ok (.ireturn, 1) := by decide +kernel
theorem dM_feed_0 : decode cM_feed 0 = .ok (.aload_n 0, 1) := by decide +kernel
theorem dM_feed_1 : decode cM_feed 1 = .ok (.aload_n 0, 1) := by decide +kernel
theorem dM_feed_2 : decode cM_feed 2 = .ok (.getfield 99, 3) := by decide +kernel
theorem dM_feed_5 : decode cM_feed 5 = .ok (.iconst 4, 1) := by decide +kernel
theorem dM_feed_6 : decode cM_feed 6 = .ok (.iadd, 1) := by decide +kernel
theorem dM_feed_7 : decode cM_feed 7 = .ok (.sipush 400, 3) := by decide +kernel
theorem dM_feed_10 : decode cM_feed 10 = .ok (.if_icmp .le 7, 3) := by decide +kernel
theorem dM_feed_13 : decode cM_feed 13 = .ok (.iconst 1, 1) := by decide +kernel
theorem dM_feed_14 : decode cM_feed 14 = .ok (.goto 4, 3) := by decide +kernel
theorem dM_feed_17 : decode cM_feed 17 = .ok (.iconst 0, 1) := by decide +kernel
theorem dM_feed_18 : decode cM_feed 18 = .ok (.putfield 45, 3) := by decide +kernel
theorem dM_feed_21 : decode cM_feed 21 = .ok (.aload_n 0, 1) := by decide +kernel
theorem dM_feed_22 : decode cM_feed 22 = .ok (.getfield 45, 3) := by decide +kernel
theorem dM_feed_25 : decode cM_feed 25 = .ok (.ifCond .le 5, 3) := by decide +kernel
theorem dM_feed_28 : decode cM_feed 28 = .ok (.iconst 0, 1) := by decide +kernel
theorem dM_feed_29 : decode cM_feed 29 = .ok (.ireturn, 1) := by decide +kernel
theorem dM_feed_30 : decode cM_feed 30 = .ok (.bipush 24, 2) := by decide +kernel
theorem dM_feed_32 : decode cM_feed 32 = .ok (.istore_n 2, 1) := by decide +kernel
theorem dM_feed_33 : decode cM_feed 33 = .ok (.iload_n 2, 1) := by decide +kernel
theorem dM_feed_34 : decode cM_feed 34 = .ok (.ifCond .lt 35, 3) := by decide +kernel
theorem dM_feed_37 : decode cM_feed 37 = .ok (.aload_n 0, 1) := by decide +kernel
theorem dM_feed_38 : decode cM_feed 38 = .ok (.getfield 35, 3) := by decide +kernel
theorem dM_feed_41 : decode cM_feed 41 = .ok (.aload_n 0, 1) := by decide +kernel
theorem dM_feed_42 : decode cM_feed 42 = .ok (.getfield 99, 3) := by decide +kernel
theorem dM_feed_45 : decode cM_feed 45 = .ok (.iload_n 1, 1) := by decide +kernel
theorem dM_feed_46 : decode cM_feed 46 = .ok (.iload_n 2, 1) := by decide +kernel
theorem dM_feed_47 : decode cM_feed 47 = .ok (.ishr, 1) := by decide +kernel
theorem dM_feed_48 : decode cM_feed 48 = .ok (.sipush 255, 3) := by decide +kernel
theorem dM_feed_51 : decode cM_feed 51 = .ok (.iand, 1) := by decide +kernel
theorem dM_feed_52 : decode cM_feed 52 = .ok (.iastore, 1) := by decide +kernel
theorem dM_feed_53 : decode cM_feed 53 = .ok (.aload_n 0, 1) := by decide +kernel
theorem dM_feed_54 : decode cM_feed 54 = .ok (.dup, 1) := by decide +kernel
theorem dM_feed_55 : decode cM_feed 55 = .ok (.getfield 99, 3) := by decide +kernel
theorem dM_feed_58 : decode cM_feed 58 = .ok (.iconst 1, 1) := by decide +kernel
theorem dM_feed_59 : decode cM_feed 59 = .ok (.iadd, 1) := by decide +kernel
theorem dM_feed_60 : decode cM_feed 60 = .ok (.putfield 99, 3) := by decide +kernel
theorem dM_feed_63 : decode cM_feed 63 = .ok (.iinc 2 (-8), 3) := by decide +kernel
theorem dM_feed_66 : decode cM_feed 66 = .ok (.goto (-33), 3) := by decide +kernel
theorem dM_feed_69 : decode cM_feed 69 = .ok (.aload_n 0, 1) := by decide +kernel
theorem dM_feed_70 : decode cM_feed 70 = .ok (.getfield 99, 3) := by decide +kernel
theorem dM_feed_73 : decode cM_feed 73 = .ok (.ireturn, 1) := by decide +kernel
theorem dM_fieldOf_0 : decode cM_fieldOf 0 = .ok (.iconst (-1), 1) := by decide +kernel
theorem dM_fieldOf_1 : decode cM_fieldOf 1 = .ok (.istore_n 2, 1) := by decide +kernel
theorem dM_fieldOf_2 : decode cM_fieldOf 2 = .ok (.iconst 0, 1) := by decide +kernel
theorem dM_fieldOf_3 : decode cM_fieldOf 3 = .ok (.istore_n 3, 1) := by decide +kernel
theorem dM_fieldOf_4 : decode cM_fieldOf 4 = .ok (.iload_n 3, 1) := by decide +kernel
theorem dM_fieldOf_5 : decode cM_fieldOf 5 = .ok (.bipush 16, 2) := by decide +kernel
theorem dM_fieldOf_7 : decode cM_fieldOf 7 = .ok (.if_icmp .ge 25, 3) := by decide +kernel
theorem dM_fieldOf_10 : decode cM_fieldOf 10 = .ok (.aload_n 0, 1) := by decide +kernel
theorem dM_fieldOf_11 : decode cM_fieldOf 11 = .ok (.getfield 7, 3) := by decide +kernel
theorem dM_fieldOf_14 : decode cM_fieldOf 14 = .ok (.iload_n 3, 1) := by decide +kernel
theorem dM_fieldOf_15 : decode cM_fieldOf 15 = .ok (.iaload, 1) := by decide +kernel
theorem dM_fieldOf_16 : decode cM_fieldOf 16 = .ok (.iload_n 1, 1) := by decide +kernel
theorem dM_fieldOf_17 : decode cM_fieldOf 17 = .ok (.if_icmp .ne 7, 3) := by decide +kernel
theorem dM_fieldOf_20 : decode cM_fieldOf 20 = .ok (.iload_n 3, 1) := by decide +kernel
theorem dM_fieldOf_21 : decode cM_fieldOf 21 = .ok (.goto 4, 3) := by decide +kernel
theorem dM_fieldOf_24 : decode cM_fieldOf 24 = .ok (.iload_n 2, 1) := by decide +kernel
theorem dM_fieldOf_25 : decode cM_fieldOf 25 = .ok (.istore_n 2, 1) := by decide +kernel
theorem dM_fieldOf_26 : decode cM_fieldOf 26 = .ok (.iinc 3 1, 3) := by decide +kernel
theorem dM_fieldOf_29 : decode cM_fieldOf 29 = .ok (.goto (-25), 3) := by decide +kernel
theorem dM_fieldOf_32 : decode cM_fieldOf 32 = .ok (.iload_n 2, 1) := by decide +kernel
theorem dM_fieldOf_33 : decode cM_fieldOf 33 = .ok (.ireturn, 1) := by decide +kernel
theorem dM_fields_0 : decode cM_fields 0 = .ok (.aload_n 0, 1) := by decide +kernel
theorem dM_fields_1 : decode cM_fields 1 = .ok (.iconst 0, 1) := by decide +kernel
theorem dM_fields_2 : decode cM_fields 2 = .ok (.putfield 45, 3) := by decide +kernel
theorem dM_fields_5 : decode cM_fields 5 = .ok (.iconst 0, 1) := by decide +kernel
theorem dM_fields_6 : decode cM_fields 6 = .ok (.istore_n 1, 1) := by decide +kernel
theorem dM_fields_7 : decode cM_fields 7 = .ok (.iconst 0, 1) := by decide +kernel
theorem dM_fields_8 : decode cM_fields 8 = .ok (.istore_n 2, 1) := by decide +kernel
theorem dM_fields_9 : decode cM_fields 9 = .ok (.iload_n 2, 1) := by decide +kernel
theorem dM_fields_10 : decode cM_fields 10 = .ok (.bipush 16, 2) := by decide +kernel
theorem dM_fields_12 : decode cM_fields 12 = .ok (.if_icmp .ge 26, 3) := by decide +kernel
theorem dM_fields_15 : decode cM_fields 15 = .ok (.iload_n 1, 1) := by decide +kernel
theorem dM_fields_16 : decode cM_fields 16 = .ok (.aload_n 0, 1) := by decide +kernel
theorem dM_fields_17 : decode cM_fields 17 = .ok (.getfield 26, 3) := by decide +kernel
theorem dM_fields_20 : decode cM_fields 20 = .ok (.iload_n 2, 1) := by decide +kernel
theorem dM_fields_21 : decode cM_fields 21 = .ok (.iaload, 1) := by decide +kernel
theorem dM_fields_22 : decode cM_fields 22 = .ok (.ifCond .lt 7, 3) := by decide +kernel
theorem dM_fields_25 : decode cM_fields 25 = .ok (.iconst 1, 1) := by decide +kernel
theorem dM_fields_26 : decode cM_fields 26 = .ok (.goto 4, 3) := by decide +kernel
theorem dM_fields_29 : decode cM_fields 29 = .ok (.iconst 0, 1) := by decide +kernel
theorem dM_fields_30 : decode cM_fields 30 = .ok (.iadd, 1) := by decide +kernel
theorem dM_fields_31 : decode cM_fields 31 = .ok (.istore_n 1, 1) := by decide +kernel
theorem dM_fields_32 : decode cM_fields 32 = .ok (.iinc 2 1, 3) := by decide +kernel
theorem dM_fields_35 : decode cM_fields 35 = .ok (.goto (-26), 3) := by decide +kernel
theorem dM_fields_38 : decode cM_fields 38 = .ok (.iload_n 1, 1) := by decide +kernel
theorem dM_fields_39 : decode cM_fields 39 = .ok (.ireturn, 1) := by decide +kernel
theorem dM_fill_0 : decode cM_fill 0 = .ok (.aload_n 0, 1) := by decide +kernel
theorem dM_fill_1 : decode cM_fill 1 = .ok (.getfield 26, 3) := by decide +kernel
theorem dM_fill_4 : decode cM_fill 4 = .ok (.iload_n 1, 1) := by decide +kernel
theorem dM_fill_5 : decode cM_fill 5 = .ok (.aload_n 0, 1) := by decide +kernel
theorem dM_fill_6 : decode cM_fill 6 = .ok (.getfield 16, 3) := by decide +kernel
theorem dM_fill_9 : decode cM_fill 9 = .ok (.iload_n 1, 1) := by decide +kernel
theorem dM_fill_10 : decode cM_fill 10 = .ok (.iaload, 1) := by decide +kernel
theorem dM_fill_11 : decode cM_fill 11 = .ok (.iconst 1, 1) := by decide +kernel
theorem dM_fill_12 : decode cM_fill 12 = .ok (.if_icmp .ne 10, 3) := by decide +kernel
theorem dM_fill_15 : decode cM_fill 15 = .ok (.lload_n 2, 1) := by decide +kernel
theorem dM_fill_16 : decode cM_fill 16 = .ok (.invokestatic 58, 3) := by decide +kernel
theorem dM_fill_19 : decode cM_fill 19 = .ok (.goto 9, 3) := by decide +kernel
theorem dM_fill_22 : decode cM_fill 22 = .ok (.aload_n 0, 1) := by decide +kernel
theorem dM_fill_23 : decode cM_fill 23 = .ok (.getfield 13, 3) := by decide +kernel
theorem dM_fill_26 : decode cM_fill 26 = .ok (.iload_n 1, 1) := by decide +kernel
theorem dM_fill_27 : decode cM_fill 27 = .ok (.iaload, 1) := by decide +kernel
theorem dM_fill_28 : decode cM_fill 28 = .ok (.iastore, 1) := by decide +kernel
theorem dM_fill_29 : decode cM_fill 29 = .ok (.aload_n 0, 1) := by decide +kernel
theorem dM_fill_30 : decode cM_fill 30 = .ok (.getfield 23, 3) := by decide +kernel
theorem dM_fill_33 : decode cM_fill 33 = .ok (.bipush 42, 2) := by decide +kernel
theorem dM_fill_35 : decode cM_fill 35 = .ok (.iload_n 1, 1) := by decide +kernel
theorem dM_fill_36 : decode cM_fill 36 = .ok (.imul, 1) := by decide +kernel
theorem dM_fill_37 : decode cM_fill 37 = .ok (.lload_n 2, 1) := by decide +kernel
theorem dM_fill_38 : decode cM_fill 38 = .ok (.aload_n 0, 1) := by decide +kernel
theorem dM_fill_39 : decode cM_fill 39 = .ok (.getfield 26, 3) := by decide +kernel
theorem dM_fill_42 : decode cM_fill 42 = .ok (.iload_n 1, 1) := by decide +kernel
theorem dM_fill_43 : decode cM_fill 43 = .ok (.iaload, 1) := by decide +kernel
theorem dM_fill_44 : decode cM_fill 44 = .ok (.invokestatic 62, 3) := by decide +kernel
theorem dM_fill_47 : decode cM_fill 47 = .ok (.return_, 1) := by decide +kernel
theorem dM_goes_0 : decode cM_goes 0 = .ok (.aload_n 0, 1) := by decide +kernel
theorem dM_goes_1 : decode cM_goes 1 = .ok (.iload_n 1, 1) := by decide +kernel
theorem dM_goes_2 : decode cM_goes 2 = .ok (.ifCond .eq 7, 3) := by decide +kernel
theorem dM_goes_5 : decode cM_goes 5 = .ok (.iconst 0, 1) := by decide +kernel
theorem dM_goes_6 : decode cM_goes 6 = .ok (.goto 4, 3) := by decide +kernel
theorem dM_goes_9 : decode cM_goes 9 = .ok (.iconst 1, 1) := by decide +kernel
theorem dM_goes_10 : decode cM_goes 10 = .ok (.putfield 45, 3) := by decide +kernel
theorem dM_goes_13 : decode cM_goes 13 = .ok (.iload_n 1, 1) := by decide +kernel
theorem dM_goes_14 : decode cM_goes 14 = .ok (.ireturn, 1) := by decide +kernel
theorem dM_init_0 : decode cM_init 0 = .ok (.aload_n 0, 1) := by decide +kernel
theorem dM_init_1 : decode cM_init 1 = .ok (.invokespecial 1, 3) := by decide +kernel
theorem dM_init_4 : decode cM_init 4 = .ok (.aload_n 0, 1) := by decide +kernel
theorem dM_init_5 : decode cM_init 5 = .ok (.bipush 16, 2) := by decide +kernel
theorem dM_init_7 : decode cM_init 7 = .ok (.newarray .int, 2) := by decide +kernel
theorem dM_init_9 : decode cM_init 9 = .ok (.dup, 1) := by decide +kernel
theorem dM_init_10 : decode cM_init 10 = .ok (.iconst 0, 1) := by decide +kernel
theorem dM_init_11 : decode cM_init 11 = .ok (.iconst 2, 1) := by decide +kernel
theorem dM_init_12 : decode cM_init 12 = .ok (.iastore, 1) := by decide +kernel
theorem dM_init_13 : decode cM_init 13 = .ok (.dup, 1) := by decide +kernel
theorem dM_init_14 : decode cM_init 14 = .ok (.iconst 1, 1) := by decide +kernel
theorem dM_init_15 : decode cM_init 15 = .ok (.iconst 3, 1) := by decide +kernel
theorem dM_init_16 : decode cM_init 16 = .ok (.iastore, 1) := by decide +kernel
theorem dM_init_17 : decode cM_init 17 = .ok (.dup, 1) := by decide +kernel
theorem dM_init_18 : decode cM_init 18 = .ok (.iconst 2, 1) := by decide +kernel
theorem dM_init_19 : decode cM_init 19 = .ok (.iconst 4, 1) := by decide +kernel
theorem dM_init_20 : decode cM_init 20 = .ok (.iastore, 1) := by decide +kernel
theorem dM_init_21 : decode cM_init 21 = .ok (.dup, 1) := by decide +kernel
theorem dM_init_22 : decode cM_init 22 = .ok (.iconst 3, 1) := by decide +kernel
theorem dM_init_23 : decode cM_init 23 = .ok (.bipush 11, 2) := by decide +kernel
theorem dM_init_25 : decode cM_init 25 = .ok (.iastore, 1) := by decide +kernel
theorem dM_init_26 : decode cM_init 26 = .ok (.dup, 1) := by decide +kernel
theorem dM_init_27 : decode cM_init 27 = .ok (.iconst 4, 1) := by decide +kernel
theorem dM_init_28 : decode cM_init 28 = .ok (.bipush 32, 2) := by decide +kernel
theorem dM_init_30 : decode cM_init 30 = .ok (.iastore, 1) := by decide +kernel
theorem dM_init_31 : decode cM_init 31 = .ok (.dup, 1) := by decide +kernel
theorem dM_init_32 : decode cM_init 32 = .ok (.iconst 5, 1) := by decide +kernel
theorem dM_init_33 : decode cM_init 33 = .ok (.bipush 37, 2) := by decide +kernel
theorem dM_init_35 : decode cM_init 35 = .ok (.iastore, 1) := by decide +kernel
theorem dM_init_36 : decode cM_init 36 = .ok (.dup, 1) := by decide +kernel
theorem dM_init_37 : decode cM_init 37 = .ok (.bipush 6, 2) := by decide +kernel
theorem dM_init_39 : decode cM_init 39 = .ok (.bipush 38, 2) := by decide +kernel
theorem dM_init_41 : decode cM_init 41 = .ok (.iastore, 1) := by decide +kernel
theorem dM_init_42 : decode cM_init 42 = .ok (.dup, 1) := by decide +kernel
theorem dM_init_43 : decode cM_init 43 = .ok (.bipush 7, 2) := by decide +kernel
theorem dM_init_45 : decode cM_init 45 = .ok (.bipush 39, 2) := by decide +kernel
theorem dM_init_47 : decode cM_init 47 = .ok (.iastore, 1) := by decide +kernel
theorem dM_init_48 : decode cM_init 48 = .ok (.dup, 1) := by decide +kernel
theorem dM_init_49 : decode cM_init 49 = .ok (.bipush 8, 2) := by decide +kernel
theorem dM_init_51 : decode cM_init 51 = .ok (.bipush 41, 2) := by decide +kernel
theorem dM_init_53 : decode cM_init 53 = .ok (.iastore, 1) := by decide +kernel
theorem dM_init_54 : decode cM_init 54 = .ok (.dup, 1) := by decide +kernel
theorem dM_init_55 : decode cM_init 55 = .ok (.bipush 9, 2) := by decide +kernel
theorem dM_init_57 : decode cM_init 57 = .ok (.bipush 49, 2) := by decide +kernel
theorem dM_init_59 : decode cM_init 59 = .ok (.iastore, 1) := by decide +kernel
theorem dM_init_60 : decode cM_init 60 = .ok (.dup, 1) := by decide +kernel
theorem dM_init_61 : decode cM_init 61 = .ok (.bipush 10, 2) := by decide +kernel
theorem dM_init_63 : decode cM_init 63 = .ok (.bipush 54, 2) := by decide +kernel
theorem dM_init_65 : decode cM_init 65 = .ok (.iastore, 1) := by decide +kernel
theorem dM_init_66 : decode cM_init 66 = .ok (.dup, 1) := by decide +kernel
theorem dM_init_67 : decode cM_init 67 = .ok (.bipush 11, 2) := by decide +kernel
theorem dM_init_69 : decode cM_init 69 = .ok (.bipush 70, 2) := by decide +kernel
theorem dM_init_71 : decode cM_init 71 = .ok (.iastore, 1) := by decide +kernel
theorem dM_init_72 : decode cM_init 72 = .ok (.dup, 1) := by decide +kernel
theorem dM_init_73 : decode cM_init 73 = .ok (.bipush 12, 2) := by decide +kernel
theorem dM_init_75 : decode cM_init 75 = .ok (.bipush 74, 2) := by decide +kernel
theorem dM_init_77 : decode cM_init 77 = .ok (.iastore, 1) := by decide +kernel
theorem dM_init_78 : decode cM_init 78 = .ok (.dup, 1) := by decide +kernel
theorem dM_init_79 : decode cM_init 79 = .ok (.bipush 13, 2) := by decide +kernel
theorem dM_init_81 : decode cM_init 81 = .ok (.bipush 86, 2) := by decide +kernel
theorem dM_init_83 : decode cM_init 83 = .ok (.iastore, 1) := by decide +kernel
theorem dM_init_84 : decode cM_init 84 = .ok (.dup, 1) := by decide +kernel
theorem dM_init_85 : decode cM_init 85 = .ok (.bipush 14, 2) := by decide +kernel
theorem dM_init_87 : decode cM_init 87 = .ok (.bipush 90, 2) := by decide +kernel
theorem dM_init_89 : decode cM_init 89 = .ok (.iastore, 1) := by decide +kernel
theorem dM_init_90 : decode cM_init 90 = .ok (.dup, 1) := by decide +kernel
theorem dM_init_91 : decode cM_init 91 = .ok (.bipush 15, 2) := by decide +kernel
theorem dM_init_93 : decode cM_init 93 = .ok (.bipush 95, 2) := by decide +kernel
theorem dM_init_95 : decode cM_init 95 = .ok (.iastore, 1) := by decide +kernel
theorem dM_init_96 : decode cM_init 96 = .ok (.putfield 7, 3) := by decide +kernel
theorem dM_init_99 : decode cM_init 99 = .ok (.aload_n 0, 1) := by decide +kernel
theorem dM_init_100 : decode cM_init 100 = .ok (.bipush 16, 2) := by decide +kernel
theorem dM_init_102 : decode cM_init 102 = .ok (.newarray .int, 2) := by decide +kernel
theorem dM_init_104 : decode cM_init 104 = .ok (.dup, 1) := by decide +kernel
theorem dM_init_105 : decode cM_init 105 = .ok (.iconst 0, 1) := by decide +kernel
theorem dM_init_106 : decode cM_init 106 = .ok (.bipush 19, 2) := by decide +kernel
theorem dM_init_108 : decode cM_init 108 = .ok (.iastore, 1) := by decide +kernel
theorem dM_init_109 : decode cM_init 109 = .ok (.dup, 1) := by decide +kernel
theorem dM_init_110 : decode cM_init 110 = .ok (.iconst 1, 1) := by decide +kernel
theorem dM_init_111 : decode cM_init 111 = .ok (.bipush 6, 2) := by decide +kernel
theorem dM_init_113 : decode cM_init 113 = .ok (.iastore, 1) := by decide +kernel
theorem dM_init_114 : decode cM_init 114 = .ok (.dup, 1) := by decide +kernel
theorem dM_init_115 : decode cM_init 115 = .ok (.iconst 2, 1) := by decide +kernel
theorem dM_init_116 : decode cM_init 116 = .ok (.bipush 12, 2) := by decide +kernel
theorem dM_init_118 : decode cM_init 118 = .ok (.iastore, 1) := by decide +kernel
theorem dM_init_119 : decode cM_init 119 = .ok (.dup, 1) := by decide +kernel
theorem dM_init_120 : decode cM_init 120 = .ok (.iconst 3, 1) := by decide +kernel
theorem dM_init_121 : decode cM_init 121 = .ok (.bipush 6, 2) := by decide +kernel
theorem dM_init_123 : decode cM_init 123 = .ok (.iastore, 1) := by decide +kernel
theorem dM_init_124 : decode cM_init 124 = .ok (.dup, 1) := by decide +kernel
theorem dM_init_125 : decode cM_init 125 = .ok (.iconst 4, 1) := by decide +kernel
theorem dM_init_126 : decode cM_init 126 = .ok (.bipush 11, 2) := by decide +kernel
theorem dM_init_128 : decode cM_init 128 = .ok (.iastore, 1) := by decide +kernel
theorem dM_init_129 : decode cM_init 129 = .ok (.dup, 1) := by decide +kernel
theorem dM_init_130 : decode cM_init 130 = .ok (.iconst 5, 1) := by decide +kernel
theorem dM_init_131 : decode cM_init 131 = .ok (.bipush 12, 2) := by decide +kernel
theorem dM_init_133 : decode cM_init 133 = .ok (.iastore, 1) := by decide +kernel
theorem dM_init_134 : decode cM_init 134 = .ok (.dup, 1) := by decide +kernel
theorem dM_init_135 : decode cM_init 135 = .ok (.bipush 6, 2) := by decide +kernel
theorem dM_init_137 : decode cM_init 137 = .ok (.bipush 6, 2) := by decide +kernel
theorem dM_init_139 : decode cM_init 139 = .ok (.iastore, 1) := by decide +kernel
theorem dM_init_140 : decode cM_init 140 = .ok (.dup, 1) := by decide +kernel
theorem dM_init_141 : decode cM_init 141 = .ok (.bipush 7, 2) := by decide +kernel
theorem dM_init_143 : decode cM_init 143 = .ok (.iconst 2, 1) := by decide +kernel
theorem dM_init_144 : decode cM_init 144 = .ok (.iastore, 1) := by decide +kernel
theorem dM_init_145 : decode cM_init 145 = .ok (.dup, 1) := by decide +kernel
theorem dM_init_146 : decode cM_init 146 = .ok (.bipush 8, 2) := by decide +kernel
theorem dM_init_148 : decode cM_init 148 = .ok (.bipush 8, 2) := by decide +kernel
theorem dM_init_150 : decode cM_init 150 = .ok (.iastore, 1) := by decide +kernel
theorem dM_init_151 : decode cM_init 151 = .ok (.dup, 1) := by decide +kernel
theorem dM_init_152 : decode cM_init 152 = .ok (.bipush 9, 2) := by decide +kernel
theorem dM_init_154 : decode cM_init 154 = .ok (.iconst 3, 1) := by decide +kernel
theorem dM_init_155 : decode cM_init 155 = .ok (.iastore, 1) := by decide +kernel
theorem dM_init_156 : decode cM_init 156 = .ok (.dup, 1) := by decide +kernel
theorem dM_init_157 : decode cM_init 157 = .ok (.bipush 10, 2) := by decide +kernel
theorem dM_init_159 : decode cM_init 159 = .ok (.bipush 40, 2) := by decide +kernel
theorem dM_init_161 : decode cM_init 161 = .ok (.iastore, 1) := by decide +kernel
theorem dM_init_162 : decode cM_init 162 = .ok (.dup, 1) := by decide +kernel
theorem dM_init_163 : decode cM_init 163 = .ok (.bipush 11, 2) := by decide +kernel
theorem dM_init_165 : decode cM_init 165 = .ok (.iconst 3, 1) := by decide +kernel
theorem dM_init_166 : decode cM_init 166 = .ok (.iastore, 1) := by decide +kernel
theorem dM_init_167 : decode cM_init 167 = .ok (.dup, 1) := by decide +kernel
theorem dM_init_168 : decode cM_init 168 = .ok (.bipush 12, 2) := by decide +kernel
theorem dM_init_170 : decode cM_init 170 = .ok (.bipush 10, 2) := by decide +kernel
theorem dM_init_172 : decode cM_init 172 = .ok (.iastore, 1) := by decide +kernel
theorem dM_init_173 : decode cM_init 173 = .ok (.dup, 1) := by decide +kernel
theorem dM_init_174 : decode cM_init 174 = .ok (.bipush 13, 2) := by decide +kernel
theorem dM_init_176 : decode cM_init 176 = .ok (.bipush 16, 2) := by decide +kernel
theorem dM_init_178 : decode cM_init 178 = .ok (.iastore, 1) := by decide +kernel
theorem dM_init_179 : decode cM_init 179 = .ok (.dup, 1) := by decide +kernel
theorem dM_init_180 : decode cM_init 180 = .ok (.bipush 14, 2) := by decide +kernel
theorem dM_init_182 : decode cM_init 182 = .ok (.bipush 42, 2) := by decide +kernel
theorem dM_init_184 : decode cM_init 184 = .ok (.iastore, 1) := by decide +kernel
theorem dM_init_185 : decode cM_init 185 = .ok (.dup, 1) := by decide +kernel
theorem dM_init_186 : decode cM_init 186 = .ok (.bipush 15, 2) := by decide +kernel
theorem dM_init_188 : decode cM_init 188 = .ok (.bipush 12, 2) := by decide +kernel
theorem dM_init_190 : decode cM_init 190 = .ok (.iastore, 1) := by decide +kernel
theorem dM_init_191 : decode cM_init 191 = .ok (.putfield 13, 3) := by decide +kernel
theorem dM_init_194 : decode cM_init 194 = .ok (.aload_n 0, 1) := by decide +kernel
theorem dM_init_195 : decode cM_init 195 = .ok (.bipush 16, 2) := by decide +kernel
theorem dM_init_197 : decode cM_init 197 = .ok (.newarray .int, 2) := by decide +kernel
theorem dM_init_199 : decode cM_init 199 = .ok (.dup, 1) := by decide +kernel
theorem dM_init_200 : decode cM_init 200 = .ok (.iconst 0, 1) := by decide +kernel
theorem dM_init_201 : decode cM_init 201 = .ok (.iconst 1, 1) := by decide +kernel
theorem dM_init_202 : decode cM_init 202 = .ok (.iastore, 1) := by decide +kernel
theorem dM_init_203 : decode cM_init 203 = .ok (.dup, 1) := by decide +kernel
theorem dM_init_204 : decode cM_init 204 = .ok (.iconst 1, 1) := by decide +kernel
theorem dM_init_205 : decode cM_init 205 = .ok (.iconst 0, 1) := by decide +kernel
theorem dM_init_206 : decode cM_init 206 = .ok (.iastore, 1) := by decide +kernel
theorem dM_init_207 : decode cM_init 207 = .ok (.dup, 1) := by decide +kernel
theorem dM_init_208 : decode cM_init 208 = .ok (.iconst 2, 1) := by decide +kernel
theorem dM_init_209 : decode cM_init 209 = .ok (.iconst 0, 1) := by decide +kernel
theorem dM_init_210 : decode cM_init 210 = .ok (.iastore, 1) := by decide +kernel
theorem dM_init_211 : decode cM_init 211 = .ok (.dup, 1) := by decide +kernel
theorem dM_init_212 : decode cM_init 212 = .ok (.iconst 3, 1) := by decide +kernel
theorem dM_init_213 : decode cM_init 213 = .ok (.iconst 0, 1) := by decide +kernel
theorem dM_init_214 : decode cM_init 214 = .ok (.iastore, 1) := by decide +kernel
theorem dM_init_215 : decode cM_init 215 = .ok (.dup, 1) := by decide +kernel
theorem dM_init_216 : decode cM_init 216 = .ok (.iconst 4, 1) := by decide +kernel
theorem dM_init_217 : decode cM_init 217 = .ok (.iconst 1, 1) := by decide +kernel
theorem dM_init_218 : decode cM_init 218 = .ok (.iastore, 1) := by decide +kernel
theorem dM_init_219 : decode cM_init 219 = .ok (.dup, 1) := by decide +kernel
theorem dM_init_220 : decode cM_init 220 = .ok (.iconst 5, 1) := by decide +kernel
theorem dM_init_221 : decode cM_init 221 = .ok (.iconst 2, 1) := by decide +kernel
theorem dM_init_222 : decode cM_init 222 = .ok (.iastore, 1) := by decide +kernel
theorem dM_init_223 : decode cM_init 223 = .ok (.dup, 1) := by decide +kernel
theorem dM_init_224 : decode cM_init 224 = .ok (.bipush 6, 2) := by decide +kernel
theorem dM_init_226 : decode cM_init 226 = .ok (.iconst 2, 1) := by decide +kernel
theorem dM_init_227 : decode cM_init 227 = .ok (.iastore, 1) := by decide +kernel
theorem dM_init_228 : decode cM_init 228 = .ok (.dup, 1) := by decide +kernel
theorem dM_init_229 : decode cM_init 229 = .ok (.bipush 7, 2) := by decide +kernel
theorem dM_init_231 : decode cM_init 231 = .ok (.iconst 2, 1) := by decide +kernel
theorem dM_init_232 : decode cM_init 232 = .ok (.iastore, 1) := by decide +kernel
theorem dM_init_233 : decode cM_init 233 = .ok (.dup, 1) := by decide +kernel
theorem dM_init_234 : decode cM_init 234 = .ok (.bipush 8, 2) := by decide +kernel
theorem dM_init_236 : decode cM_init 236 = .ok (.iconst 2, 1) := by decide +kernel
theorem dM_init_237 : decode cM_init 237 = .ok (.iastore, 1) := by decide +kernel
theorem dM_init_238 : decode cM_init 238 = .ok (.dup, 1) := by decide +kernel
theorem dM_init_239 : decode cM_init 239 = .ok (.bipush 9, 2) := by decide +kernel
theorem dM_init_241 : decode cM_init 241 = .ok (.iconst 0, 1) := by decide +kernel
theorem dM_init_242 : decode cM_init 242 = .ok (.iastore, 1) := by decide +kernel
theorem dM_init_243 : decode cM_init 243 = .ok (.dup, 1) := by decide +kernel
theorem dM_init_244 : decode cM_init 244 = .ok (.bipush 10, 2) := by decide +kernel
theorem dM_init_246 : decode cM_init 246 = .ok (.iconst 3, 1) := by decide +kernel
theorem dM_init_247 : decode cM_init 247 = .ok (.iastore, 1) := by decide +kernel
theorem dM_init_248 : decode cM_init 248 = .ok (.dup, 1) := by decide +kernel
theorem dM_init_249 : decode cM_init 249 = .ok (.bipush 11, 2) := by decide +kernel
theorem dM_init_251 : decode cM_init 251 = .ok (.iconst 0, 1) := by decide +kernel
theorem dM_init_252 : decode cM_init 252 = .ok (.iastore, 1) := by decide +kernel
theorem dM_init_253 : decode cM_init 253 = .ok (.dup, 1) := by decide +kernel
theorem dM_init_254 : decode cM_init 254 = .ok (.bipush 12, 2) := by decide +kernel
theorem dM_init_256 : decode cM_init 256 = .ok (.iconst 0, 1) := by decide +kernel
theorem dM_init_257 : decode cM_init 257 = .ok (.iastore, 1) := by decide +kernel
theorem dM_init_258 : decode cM_init 258 = .ok (.dup, 1) := by decide +kernel
theorem dM_init_259 : decode cM_init 259 = .ok (.bipush 13, 2) := by decide +kernel
theorem dM_init_261 : decode cM_init 261 = .ok (.iconst 0, 1) := by decide +kernel
theorem dM_init_262 : decode cM_init 262 = .ok (.iastore, 1) := by decide +kernel
theorem dM_init_263 : decode cM_init 263 = .ok (.dup, 1) := by decide +kernel
theorem dM_init_264 : decode cM_init 264 = .ok (.bipush 14, 2) := by decide +kernel
theorem dM_init_266 : decode cM_init 266 = .ok (.iconst 0, 1) := by decide +kernel
theorem dM_init_267 : decode cM_init 267 = .ok (.iastore, 1) := by decide +kernel
theorem dM_init_268 : decode cM_init 268 = .ok (.dup, 1) := by decide +kernel
theorem dM_init_269 : decode cM_init 269 = .ok (.bipush 15, 2) := by decide +kernel
theorem dM_init_271 : decode cM_init 271 = .ok (.iconst 0, 1) := by decide +kernel
theorem dM_init_272 : decode cM_init 272 = .ok (.iastore, 1) := by decide +kernel
theorem dM_init_273 : decode cM_init 273 = .ok (.putfield 16, 3) := by decide +kernel
theorem dM_init_276 : decode cM_init 276 = .ok (.aload_n 0, 1) := by decide +kernel
theorem dM_init_277 : decode cM_init 277 = .ok (.sipush 800, 3) := by decide +kernel
theorem dM_init_280 : decode cM_init 280 = .ok (.putfield 19, 3) := by decide +kernel
theorem dM_init_283 : decode cM_init 283 = .ok (.aload_n 0, 1) := by decide +kernel
theorem dM_init_284 : decode cM_init 284 = .ok (.sipush 672, 3) := by decide +kernel
theorem dM_init_287 : decode cM_init 287 = .ok (.newarray .int, 2) := by decide +kernel
theorem dM_init_289 : decode cM_init 289 = .ok (.putfield 23, 3) := by decide +kernel
theorem dM_init_292 : decode cM_init 292 = .ok (.aload_n 0, 1) := by decide +kernel
theorem dM_init_293 : decode cM_init 293 = .ok (.bipush 16, 2) := by decide +kernel
theorem dM_init_295 : decode cM_init 295 = .ok (.newarray .int, 2) := by decide +kernel
theorem dM_init_297 : decode cM_init 297 = .ok (.putfield 26, 3) := by decide +kernel
theorem dM_init_300 : decode cM_init 300 = .ok (.aload_n 0, 1) := by decide +kernel
theorem dM_init_301 : decode cM_init 301 = .ok (.sipush 672, 3) := by decide +kernel
theorem dM_init_304 : decode cM_init 304 = .ok (.newarray .int, 2) := by decide +kernel
theorem dM_init_306 : decode cM_init 306 = .ok (.putfield 29, 3) := by decide +kernel
theorem dM_init_309 : decode cM_init 309 = .ok (.aload_n 0, 1) := by decide +kernel
theorem dM_init_310 : decode cM_init 310 = .ok (.bipush 16, 2) := by decide +kernel
theorem dM_init_312 : decode cM_init 312 = .ok (.newarray .int, 2) := by decide +kernel
theorem dM_init_314 : decode cM_init 314 = .ok (.putfield 32, 3) := by decide +kernel
theorem dM_init_317 : decode cM_init 317 = .ok (.aload_n 0, 1) := by decide +kernel
theorem dM_init_318 : decode cM_init 318 = .ok (.sipush 400, 3) := by decide +kernel
theorem dM_init_321 : decode cM_init 321 = .ok (.newarray .int, 2) := by decide +kernel
theorem dM_init_323 : decode cM_init 323 = .ok (.putfield 35, 3) := by decide +kernel
theorem dM_init_326 : decode cM_init 326 = .ok (.aload_n 0, 1) := by decide +kernel
theorem dM_init_327 : decode cM_init 327 = .ok (.iconst 4, 1) := by decide +kernel
theorem dM_init_328 : decode cM_init 328 = .ok (.newarray .int, 2) := by decide +kernel
theorem dM_init_330 : decode cM_init 330 = .ok (.putfield 38, 3) := by decide +kernel
theorem dM_init_333 : decode cM_init 333 = .ok (.aload_n 0, 1) := by decide +kernel
theorem dM_init_334 : decode cM_init 334 = .ok (.getfield 26, 3) := by decide +kernel
theorem dM_init_337 : decode cM_init 337 = .ok (.invokestatic 41, 3) := by decide +kernel
theorem dM_init_340 : decode cM_init 340 = .ok (.aload_n 0, 1) := by decide +kernel
theorem dM_init_341 : decode cM_init 341 = .ok (.getfield 32, 3) := by decide +kernel
theorem dM_init_344 : decode cM_init 344 = .ok (.invokestatic 41, 3) := by decide +kernel
theorem dM_init_347 : decode cM_init 347 = .ok (.return_, 1) := by decide +kernel
theorem dM_isType_0 : decode cM_isType 0 = .ok (.iload_n 0, 1) := by decide +kernel
theorem dM_isType_1 : decode cM_isType 1 = .ok (.bipush 100, 2) := by decide +kernel
theorem dM_isType_3 : decode cM_isType 3 = .ok (.irem, 1) := by decide +kernel
theorem dM_isType_4 : decode cM_isType 4 = .ok (.istore_n 1, 1) := by decide +kernel
theorem dM_isType_5 : decode cM_isType 5 = .ok (.iload_n 0, 1) := by decide +kernel
theorem dM_isType_6 : decode cM_isType 6 = .ok (.bipush 100, 2) := by decide +kernel
theorem dM_isType_8 : decode cM_isType 8 = .ok (.idiv, 1) := by decide +kernel
theorem dM_isType_9 : decode cM_isType 9 = .ok (.tableswitch 119 1 5 #[35, 56, 119, 80, 35], 35) := by decide +kernel
theorem dM_isType_44 : decode cM_isType 44 = .ok (.iload_n 1, 1) := by decide +kernel
theorem dM_isType_45 : decode cM_isType 45 = .ok (.ifCond .eq 14, 3) := by decide +kernel
theorem dM_isType_48 : decode cM_isType 48 = .ok (.iload_n 1, 1) := by decide +kernel
theorem dM_isType_49 : decode cM_isType 49 = .ok (.iconst 1, 1) := by decide +kernel
theorem dM_isType_50 : decode cM_isType 50 = .ok (.if_icmp .eq 9, 3) := by decide +kernel
theorem dM_isType_53 : decode cM_isType 53 = .ok (.iload_n 1, 1) := by decide +kernel
theorem dM_isType_54 : decode cM_isType 54 = .ok (.bipush 10, 2) := by decide +kernel
theorem dM_isType_56 : decode cM_isType 56 = .ok (.if_icmp .ne 7, 3) := by decide +kernel
theorem dM_isType_59 : decode cM_isType 59 = .ok (.iconst 1, 1) := by decide +kernel
theorem dM_isType_60 : decode cM_isType 60 = .ok (.goto 4, 3) := by decide +kernel
theorem dM_isType_63 : decode cM_isType 63 = .ok (.iconst 0, 1) := by decide +kernel
theorem dM_isType_64 : decode cM_isType 64 = .ok (.ireturn, 1) := by decide +kernel
theorem dM_isType_65 : decode cM_isType 65 = .ok (.iload_n 1, 1) := by decide +kernel
theorem dM_isType_66 : decode cM_isType 66 = .ok (.bipush 20, 2) := by decide +kernel
theorem dM_isType_68 : decode cM_isType 68 = .ok (.if_icmp .eq 15, 3) := by decide +kernel
theorem dM_isType_71 : decode cM_isType 71 = .ok (.iload_n 1, 1) := by decide +kernel
theorem dM_isType_72 : decode cM_isType 72 = .ok (.bipush 21, 2) := by decide +kernel
theorem dM_isType_74 : decode cM_isType 74 = .ok (.if_icmp .eq 9, 3) := by decide +kernel
theorem dM_isType_77 : decode cM_isType 77 = .ok (.iload_n 1, 1) := by decide +kernel
theorem dM_isType_78 : decode cM_isType 78 = .ok (.bipush 30, 2) := by decide +kernel
theorem dM_isType_80 : decode cM_isType 80 = .ok (.if_icmp .ne 7, 3) := by decide +kernel
theorem dM_isType_83 : decode cM_isType 83 = .ok (.iconst 1, 1) := by decide +kernel
theorem dM_isType_84 : decode cM_isType 84 = .ok (.goto 4, 3) := by decide +kernel
theorem dM_isType_87 : decode cM_isType 87 = .ok (.iconst 0, 1) := by decide +kernel
theorem dM_isType_88 : decode cM_isType 88 = .ok (.ireturn, 1) := by decide +kernel
theorem dM_isType_89 : decode cM_isType 89 = .ok (.iload_n 1, 1) := by decide +kernel
theorem dM_isType_90 : decode cM_isType 90 = .ok (.ifCond .eq 32, 3) := by decide +kernel
theorem dM_isType_93 : decode cM_isType 93 = .ok (.iload_n 1, 1) := by decide +kernel
theorem dM_isType_94 : decode cM_isType 94 = .ok (.iconst 1, 1) := by decide +kernel
theorem dM_isType_95 : decode cM_isType 95 = .ok (.if_icmp .eq 27, 3) := by decide +kernel
theorem dM_isType_98 : decode cM_isType 98 = .ok (.iload_n 1, 1) := by decide +kernel
theorem dM_isType_99 : decode cM_isType 99 = .ok (.bipush 10, 2) := by decide +kernel
theorem dM_isType_101 : decode cM_isType 101 = .ok (.if_icmp .eq 21, 3) := by decide +kernel
theorem dM_isType_104 : decode cM_isType 104 = .ok (.iload_n 1, 1) := by decide +kernel
theorem dM_isType_105 : decode cM_isType 105 = .ok (.bipush 20, 2) := by decide +kernel
theorem dM_isType_107 : decode cM_isType 107 = .ok (.if_icmp .eq 15, 3) := by decide +kernel
theorem dM_isType_110 : decode cM_isType 110 = .ok (.iload_n 1, 1) := by decide +kernel
theorem dM_isType_111 : decode cM_isType 111 = .ok (.bipush 21, 2) := by decide +kernel
theorem dM_isType_113 : decode cM_isType 113 = .ok (.if_icmp .eq 9, 3) := by decide +kernel
theorem dM_isType_116 : decode cM_isType 116 = .ok (.iload_n 1, 1) := by decide +kernel
theorem dM_isType_117 : decode cM_isType 117 = .ok (.bipush 30, 2) := by decide +kernel
theorem dM_isType_119 : decode cM_isType 119 = .ok (.if_icmp .ne 7, 3) := by decide +kernel
theorem dM_isType_122 : decode cM_isType 122 = .ok (.iconst 1, 1) := by decide +kernel
theorem dM_isType_123 : decode cM_isType 123 = .ok (.goto 4, 3) := by decide +kernel
theorem dM_isType_126 : decode cM_isType 126 = .ok (.iconst 0, 1) := by decide +kernel
theorem dM_isType_127 : decode cM_isType 127 = .ok (.ireturn, 1) := by decide +kernel
theorem dM_isType_128 : decode cM_isType 128 = .ok (.iload_n 0, 1) := by decide +kernel
theorem dM_isType_129 : decode cM_isType 129 = .ok (.sipush 800, 3) := by decide +kernel
theorem dM_isType_132 : decode cM_isType 132 = .ok (.if_icmp .eq 10, 3) := by decide +kernel
theorem dM_isType_135 : decode cM_isType 135 = .ok (.iload_n 0, 1) := by decide +kernel
theorem dM_isType_136 : decode cM_isType 136 = .ok (.sipush 810, 3) := by decide +kernel
theorem dM_isType_139 : decode cM_isType 139 = .ok (.if_icmp .ne 7, 3) := by decide +kernel
theorem dM_isType_142 : decode cM_isType 142 = .ok (.iconst 1, 1) := by decide +kernel
theorem dM_isType_143 : decode cM_isType 143 = .ok (.goto 4, 3) := by decide +kernel
theorem dM_isType_146 : decode cM_isType 146 = .ok (.iconst 0, 1) := by decide +kernel
theorem dM_isType_147 : decode cM_isType 147 = .ok (.ireturn, 1) := by decide +kernel
theorem dM_letters_0 : decode cM_letters 0 = .ok (.aload_n 0, 1) := by decide +kernel
theorem dM_letters_1 : decode cM_letters 1 = .ok (.iload_n 1, 1) := by decide +kernel
theorem dM_letters_2 : decode cM_letters 2 = .ok (.invokevirtual 66, 3) := by decide +kernel
theorem dM_letters_5 : decode cM_letters 5 = .ok (.istore 5, 2) := by decide +kernel
theorem dM_letters_7 : decode cM_letters 7 = .ok (.iload 5, 2) := by decide +kernel
theorem dM_letters_9 : decode cM_letters 9 = .ok (.ifCond .lt 18, 3) := by decide +kernel
theorem dM_letters_12 : decode cM_letters 12 = .ok (.aload_n 0, 1) := by decide +kernel
theorem dM_letters_13 : decode cM_letters 13 = .ok (.getfield 16, 3) := by decide +kernel
theorem dM_letters_16 : decode cM_letters 16 = .ok (.iload 5, 2) := by decide +kernel
theorem dM_letters_18 : decode cM_letters 18 = .ok (.iaload, 1) := by decide +kernel
theorem dM_letters_19 : decode cM_letters 19 = .ok (.iconst 1, 1) := by decide +kernel
theorem dM_letters_20 : decode cM_letters 20 = .ok (.if_icmp .le 7, 3) := by decide +kernel
theorem dM_letters_23 : decode cM_letters 23 = .ok (.iconst 1, 1) := by decide +kernel
theorem dM_letters_24 : decode cM_letters 24 = .ok (.goto 4, 3) := by decide +kernel
theorem dM_letters_27 : decode cM_letters 27 = .ok (.iconst 0, 1) := by decide +kernel
theorem dM_letters_28 : decode cM_letters 28 = .ok (.istore 6, 2) := by decide +kernel
theorem dM_letters_30 : decode cM_letters 30 = .ok (.iload 6, 2) := by decide +kernel
theorem dM_letters_32 : decode cM_letters 32 = .ok (.ifCond .eq 39, 3) := by decide +kernel
theorem dM_letters_35 : decode cM_letters 35 = .ok (.aload_n 0, 1) := by decide +kernel
theorem dM_letters_36 : decode cM_letters 36 = .ok (.getfield 16, 3) := by decide +kernel
theorem dM_letters_39 : decode cM_letters 39 = .ok (.iload 5, 2) := by decide +kernel
theorem dM_letters_41 : decode cM_letters 41 = .ok (.iaload, 1) := by decide +kernel
theorem dM_letters_42 : decode cM_letters 42 = .ok (.iconst 3, 1) := by decide +kernel
theorem dM_letters_43 : decode cM_letters 43 = .ok (.if_icmp .ne 19, 3) := by decide +kernel
theorem dM_letters_46 : decode cM_letters 46 = .ok (.iload 4, 2) := by decide +kernel
theorem dM_letters_48 : decode cM_letters 48 = .ok (.iconst 1, 1) := by decide +kernel
theorem dM_letters_49 : decode cM_letters 49 = .ok (.if_icmp .lt 22, 3) := by decide +kernel
theorem dM_letters_52 : decode cM_letters 52 = .ok (.iload 4, 2) := by decide +kernel
theorem dM_letters_54 : decode cM_letters 54 = .ok (.bipush 40, 2) := by decide +kernel
theorem dM_letters_56 : decode cM_letters 56 = .ok (.if_icmp .gt 15, 3) := by decide +kernel
theorem dM_letters_59 : decode cM_letters 59 = .ok (.goto 8, 3) := by decide +kernel
theorem dM_letters_62 : decode cM_letters 62 = .ok (.iload 4, 2) := by decide +kernel
theorem dM_letters_64 : decode cM_letters 64 = .ok (.ifCond .ne 7, 3) := by decide +kernel
theorem dM_letters_67 : decode cM_letters 67 = .ok (.iconst 1, 1) := by decide +kernel
theorem dM_letters_68 : decode cM_letters 68 = .ok (.goto 4, 3) := by decide +kernel
theorem dM_letters_71 : decode cM_letters 71 = .ok (.iconst 0, 1) := by decide +kernel
theorem dM_letters_72 : decode cM_letters 72 = .ok (.istore 6, 2) := by decide +kernel
theorem dM_letters_74 : decode cM_letters 74 = .ok (.aload_n 0, 1) := by decide +kernel
theorem dM_letters_75 : decode cM_letters 75 = .ok (.iload 6, 2) := by decide +kernel
theorem dM_letters_77 : decode cM_letters 77 = .ok (.invokevirtual 50, 3) := by decide +kernel
theorem dM_letters_80 : decode cM_letters 80 = .ok (.ifCond .eq 81, 3) := by decide +kernel
theorem dM_letters_83 : decode cM_letters 83 = .ok (.aload_n 0, 1) := by decide +kernel
theorem dM_letters_84 : decode cM_letters 84 = .ok (.getfield 26, 3) := by decide +kernel
theorem dM_letters_87 : decode cM_letters 87 = .ok (.iload 5, 2) := by decide +kernel
theorem dM_letters_89 : decode cM_letters 89 = .ok (.aload_n 0, 1) := by decide +kernel
theorem dM_letters_90 : decode cM_letters 90 = .ok (.getfield 16, 3) := by decide +kernel
theorem dM_letters_93 : decode cM_letters 93 = .ok (.iload 5, 2) := by decide +kernel
theorem dM_letters_95 : decode cM_letters 95 = .ok (.iaload, 1) := by decide +kernel
theorem dM_letters_96 : decode cM_letters 96 = .ok (.iconst 3, 1) := by decide +kernel
theorem dM_letters_97 : decode cM_letters 97 = .ok (.if_icmp .ne 8, 3) := by decide +kernel
theorem dM_letters_100 : decode cM_letters 100 = .ok (.iload 4, 2) := by decide +kernel
theorem dM_letters_102 : decode cM_letters 102 = .ok (.goto 10, 3) := by decide +kernel
theorem dM_letters_105 : decode cM_letters 105 = .ok (.aload_n 0, 1) := by decide +kernel
theorem dM_letters_106 : decode cM_letters 106 = .ok (.getfield 13, 3) := by decide +kernel
theorem dM_letters_109 : decode cM_letters 109 = .ok (.iload 5, 2) := by decide +kernel
theorem dM_letters_111 : decode cM_letters 111 = .ok (.iaload, 1) := by decide +kernel
theorem dM_letters_112 : decode cM_letters 112 = .ok (.iastore, 1) := by decide +kernel
theorem dM_letters_113 : decode cM_letters 113 = .ok (.iconst 0, 1) := by decide +kernel
theorem dM_letters_114 : decode cM_letters 114 = .ok (.istore 7, 2) := by decide +kernel
theorem dM_letters_116 : decode cM_letters 116 = .ok (.iload 7, 2) := by decide +kernel
theorem dM_letters_118 : decode cM_letters 118 = .ok (.aload_n 0, 1) := by decide +kernel
theorem dM_letters_119 : decode cM_letters 119 = .ok (.getfield 26, 3) := by decide +kernel
theorem dM_letters_122 : decode cM_letters 122 = .ok (.iload 5, 2) := by decide +kernel
theorem dM_letters_124 : decode cM_letters 124 = .ok (.iaload, 1) := by decide +kernel
theorem dM_letters_125 : decode cM_letters 125 = .ok (.if_icmp .ge 36, 3) := by decide +kernel
theorem dM_letters_128 : decode cM_letters 128 = .ok (.aload_n 0, 1) := by decide +kernel
theorem dM_letters_129 : decode cM_letters 129 = .ok (.getfield 23, 3) := by decide +kernel
theorem dM_letters_132 : decode cM_letters 132 = .ok (.bipush 42, 2) := by decide +kernel
theorem dM_letters_134 : decode cM_letters 134 = .ok (.iload 5, 2) := by decide +kernel
theorem dM_letters_136 : decode cM_letters 136 = .ok (.imul, 1) := by decide +kernel
theorem dM_letters_137 : decode cM_letters 137 = .ok (.iload 7, 2) := by decide +kernel
theorem dM_letters_139 : decode cM_letters 139 = .ok (.iadd, 1) := by decide +kernel
theorem dM_letters_140 : decode cM_letters 140 = .ok (.lload_n 2, 1) := by decide +kernel
theorem dM_letters_141 : decode cM_letters 141 = .ok (.iconst 5, 1) := by decide +kernel
theorem dM_letters_142 : decode cM_letters 142 = .ok (.iload 7, 2) := by decide +kernel
theorem dM_letters_144 : decode cM_letters 144 = .ok (.bipush 12, 2) := by decide +kernel
theorem dM_letters_146 : decode cM_letters 146 = .ok (.irem, 1) := by decide +kernel
theorem dM_letters_147 : decode cM_letters 147 = .ok (.imul, 1) := by decide +kernel
theorem dM_letters_148 : decode cM_letters 148 = .ok (.lshr, 1) := by decide +kernel
theorem dM_letters_149 : decode cM_letters 149 = .ok (.ldc2_w 74, 3) := by decide +kernel
theorem dM_letters_152 : decode cM_letters 152 = .ok (.land, 1) := by decide +kernel
theorem dM_letters_153 : decode cM_letters 153 = .ok (.l2i, 1) := by decide +kernel
theorem dM_letters_154 : decode cM_letters 154 = .ok (.iastore, 1) := by decide +kernel
theorem dM_letters_155 : decode cM_letters 155 = .ok (.iinc 7 1, 3) := by decide +kernel
theorem dM_letters_158 : decode cM_letters 158 = .ok (.goto (-42), 3) := by decide +kernel
theorem dM_letters_161 : decode cM_letters 161 = .ok (.return_, 1) := by decide +kernel
theorem dM_message_0 : decode cM_message 0 = .ok (.aload_n 0, 1) := by decide +kernel
theorem dM_message_1 : decode cM_message 1 = .ok (.iload_n 1, 1) := by decide +kernel
theorem dM_message_2 : decode cM_message 2 = .ok (.ifCond .lt 14, 3) := by decide +kernel
theorem dM_message_5 : decode cM_message 5 = .ok (.iload_n 1, 1) := by decide +kernel
theorem dM_message_6 : decode cM_message 6 = .ok (.sipush 9999, 3) := by decide +kernel
theorem dM_message_9 : decode cM_message 9 = .ok (.if_icmp .gt 7, 3) := by decide +kernel
theorem dM_message_12 : decode cM_message 12 = .ok (.iconst 1, 1) := by decide +kernel
theorem dM_message_13 : decode cM_message 13 = .ok (.goto 4, 3) := by decide +kernel
theorem dM_message_16 : decode cM_message 16 = .ok (.iconst 0, 1) := by decide +kernel
theorem dM_message_17 : decode cM_message 17 = .ok (.invokevirtual 50, 3) := by decide +kernel
theorem dM_message_20 : decode cM_message 20 = .ok (.ifCond .eq 8, 3) := by decide +kernel
theorem dM_message_23 : decode cM_message 23 = .ok (.aload_n 0, 1) := by decide +kernel
theorem dM_message_24 : decode cM_message 24 = .ok (.iload_n 1, 1) := by decide +kernel
theorem dM_message_25 : decode cM_message 25 = .ok (.invokevirtual 54, 3) := by decide +kernel
theorem dM_message_28 : decode cM_message 28 = .ok (.return_, 1) := by decide +kernel
theorem dM_number_0 : decode cM_number 0 = .ok (.aload_n 0, 1) := by decide +kernel
theorem dM_number_1 : decode cM_number 1 = .ok (.iload_n 1, 1) := by decide +kernel
theorem dM_number_2 : decode cM_number 2 = .ok (.invokevirtual 66, 3) := by decide +kernel
theorem dM_number_5 : decode cM_number 5 = .ok (.istore_n 2, 1) := by decide +kernel
theorem dM_number_6 : decode cM_number 6 = .ok (.aload_n 0, 1) := by decide +kernel
theorem dM_number_7 : decode cM_number 7 = .ok (.iload_n 2, 1) := by decide +kernel
theorem dM_number_8 : decode cM_number 8 = .ok (.ifCond .lt 17, 3) := by decide +kernel
theorem dM_number_11 : decode cM_number 11 = .ok (.aload_n 0, 1) := by decide +kernel
theorem dM_number_12 : decode cM_number 12 = .ok (.getfield 16, 3) := by decide +kernel
theorem dM_number_15 : decode cM_number 15 = .ok (.iload_n 2, 1) := by decide +kernel
theorem dM_number_16 : decode cM_number 16 = .ok (.iaload, 1) := by decide +kernel
theorem dM_number_17 : decode cM_number 17 = .ok (.iconst 2, 1) := by decide +kernel
theorem dM_number_18 : decode cM_number 18 = .ok (.if_icmp .ge 7, 3) := by decide +kernel
theorem dM_number_21 : decode cM_number 21 = .ok (.iconst 1, 1) := by decide +kernel
theorem dM_number_22 : decode cM_number 22 = .ok (.goto 4, 3) := by decide +kernel
theorem dM_number_25 : decode cM_number 25 = .ok (.iconst 0, 1) := by decide +kernel
theorem dM_number_26 : decode cM_number 26 = .ok (.invokevirtual 50, 3) := by decide +kernel
theorem dM_number_29 : decode cM_number 29 = .ok (.ifCond .ne 5, 3) := by decide +kernel
theorem dM_number_32 : decode cM_number 32 = .ok (.lconst 0, 1) := by decide +kernel
theorem dM_number_33 : decode cM_number 33 = .ok (.lreturn, 1) := by decide +kernel
theorem dM_number_34 : decode cM_number 34 = .ok (.aload_n 0, 1) := by decide +kernel
theorem dM_number_35 : decode cM_number 35 = .ok (.getfield 26, 3) := by decide +kernel
theorem dM_number_38 : decode cM_number 38 = .ok (.iload_n 2, 1) := by decide +kernel
theorem dM_number_39 : decode cM_number 39 = .ok (.iaload, 1) := by decide +kernel
theorem dM_number_40 : decode cM_number 40 = .ok (.ifCond .ge 9, 3) := by decide +kernel
theorem dM_number_43 : decode cM_number 43 = .ok (.ldc2_w 82, 3) := by decide +kernel
theorem dM_number_46 : decode cM_number 46 = .ok (.goto 4, 3) := by decide +kernel
theorem dM_number_49 : decode cM_number 49 = .ok (.lconst 0, 1) := by decide +kernel
theorem dM_number_50 : decode cM_number 50 = .ok (.lstore_n 3, 1) := by decide +kernel
theorem dM_number_51 : decode cM_number 51 = .ok (.aload_n 0, 1) := by decide +kernel
theorem dM_number_52 : decode cM_number 52 = .ok (.getfield 26, 3) := by decide +kernel
theorem dM_number_55 : decode cM_number 55 = .ok (.iload_n 2, 1) := by decide +kernel
theorem dM_number_56 : decode cM_number 56 = .ok (.iaload, 1) := by decide +kernel
theorem dM_number_57 : decode cM_number 57 = .ok (.bipush 18, 2) := by decide +kernel
theorem dM_number_59 : decode cM_number 59 = .ok (.if_icmp .le 15, 3) := by decide +kernel
theorem dM_number_62 : decode cM_number 62 = .ok (.aload_n 0, 1) := by decide +kernel
theorem dM_number_63 : decode cM_number 63 = .ok (.getfield 26, 3) := by decide +kernel
theorem dM_number_66 : decode cM_number 66 = .ok (.iload_n 2, 1) := by decide +kernel
theorem dM_number_67 : decode cM_number 67 = .ok (.iaload, 1) := by decide +kernel
theorem dM_number_68 : decode cM_number 68 = .ok (.bipush 18, 2) := by decide +kernel
theorem dM_number_70 : decode cM_number 70 = .ok (.isub, 1) := by decide +kernel
theorem dM_number_71 : decode cM_number 71 = .ok (.goto 4, 3) := by decide +kernel
theorem dM_number_74 : decode cM_number 74 = .ok (.iconst 0, 1) := by decide +kernel
theorem dM_number_75 : decode cM_number 75 = .ok (.istore 5, 2) := by decide +kernel
theorem dM_number_77 : decode cM_number 77 = .ok (.iload 5, 2) := by decide +kernel
theorem dM_number_79 : decode cM_number 79 = .ok (.aload_n 0, 1) := by decide +kernel
theorem dM_number_80 : decode cM_number 80 = .ok (.getfield 26, 3) := by decide +kernel
theorem dM_number_83 : decode cM_number 83 = .ok (.iload_n 2, 1) := by decide +kernel
theorem dM_number_84 : decode cM_number 84 = .ok (.iaload, 1) := by decide +kernel
theorem dM_number_85 : decode cM_number 85 = .ok (.if_icmp .ge 29, 3) := by decide +kernel
theorem dM_number_88 : decode cM_number 88 = .ok (.ldc2_w 48, 3) := by decide +kernel
theorem dM_number_91 : decode cM_number 91 = .ok (.lload_n 3, 1) := by decide +kernel
theorem dM_number_92 : decode cM_number 92 = .ok (.lmul, 1) := by decide +kernel
theorem dM_number_93 : decode cM_number 93 = .ok (.aload_n 0, 1) := by decide +kernel
theorem dM_number_94 : decode cM_number 94 = .ok (.getfield 23, 3) := by decide +kernel
theorem dM_number_97 : decode cM_number 97 = .ok (.bipush 42, 2) := by decide +kernel
theorem dM_number_99 : decode cM_number 99 = .ok (.iload_n 2, 1) := by decide +kernel
theorem dM_number_100 : decode cM_number 100 = .ok (.imul, 1) := by decide +kernel
theorem dM_number_101 : decode cM_number 101 = .ok (.iload 5, 2) := by decide +kernel
theorem dM_number_103 : decode cM_number 103 = .ok (.iadd, 1) := by decide +kernel
theorem dM_number_104 : decode cM_number 104 = .ok (.iaload, 1) := by decide +kernel
theorem dM_number_105 : decode cM_number 105 = .ok (.i2l, 1) := by decide +kernel
theorem dM_number_106 : decode cM_number 106 = .ok (.ladd, 1) := by decide +kernel
theorem dM_number_107 : decode cM_number 107 = .ok (.lstore_n 3, 1) := by decide +kernel
theorem dM_number_108 : decode cM_number 108 = .ok (.iinc 5 1, 3) := by decide +kernel
theorem dM_number_111 : decode cM_number 111 = .ok (.goto (-34), 3) := by decide +kernel
theorem dM_number_114 : decode cM_number 114 = .ok (.lload_n 3, 1) := by decide +kernel
theorem dM_number_115 : decode cM_number 115 = .ok (.lreturn, 1) := by decide +kernel
theorem dM_omit_0 : decode cM_omit 0 = .ok (.aload_n 0, 1) := by decide +kernel
theorem dM_omit_1 : decode cM_omit 1 = .ok (.iload_n 1, 1) := by decide +kernel
theorem dM_omit_2 : decode cM_omit 2 = .ok (.invokevirtual 66, 3) := by decide +kernel
theorem dM_omit_5 : decode cM_omit 5 = .ok (.istore_n 2, 1) := by decide +kernel
theorem dM_omit_6 : decode cM_omit 6 = .ok (.aload_n 0, 1) := by decide +kernel
theorem dM_omit_7 : decode cM_omit 7 = .ok (.iload_n 2, 1) := by decide +kernel
theorem dM_omit_8 : decode cM_omit 8 = .ok (.ifCond .lt 7, 3) := by decide +kernel
theorem dM_omit_11 : decode cM_omit 11 = .ok (.iconst 1, 1) := by decide +kernel
theorem dM_omit_12 : decode cM_omit 12 = .ok (.goto 4, 3) := by decide +kernel
theorem dM_omit_15 : decode cM_omit 15 = .ok (.iconst 0, 1) := by decide +kernel
theorem dM_omit_16 : decode cM_omit 16 = .ok (.invokevirtual 50, 3) := by decide +kernel
theorem dM_omit_19 : decode cM_omit 19 = .ok (.ifCond .ne 5, 3) := by decide +kernel
theorem dM_omit_22 : decode cM_omit 22 = .ok (.iconst 0, 1) := by decide +kernel
theorem dM_omit_23 : decode cM_omit 23 = .ok (.ireturn, 1) := by decide +kernel
theorem dM_omit_24 : decode cM_omit 24 = .ok (.aload_n 0, 1) := by decide +kernel
theorem dM_omit_25 : decode cM_omit 25 = .ok (.getfield 26, 3) := by decide +kernel
theorem dM_omit_28 : decode cM_omit 28 = .ok (.iload_n 2, 1) := by decide +kernel
theorem dM_omit_29 : decode cM_omit 29 = .ok (.iaload, 1) := by decide +kernel
theorem dM_omit_30 : decode cM_omit 30 = .ok (.ifCond .lt 7, 3) := by decide +kernel
theorem dM_omit_33 : decode cM_omit 33 = .ok (.iconst 1, 1) := by decide +kernel
theorem dM_omit_34 : decode cM_omit 34 = .ok (.goto 4, 3) := by decide +kernel
theorem dM_omit_37 : decode cM_omit 37 = .ok (.iconst 0, 1) := by decide +kernel
theorem dM_omit_38 : decode cM_omit 38 = .ok (.istore_n 3, 1) := by decide +kernel
theorem dM_omit_39 : decode cM_omit 39 = .ok (.aload_n 0, 1) := by decide +kernel
theorem dM_omit_40 : decode cM_omit 40 = .ok (.getfield 26, 3) := by decide +kernel
theorem dM_omit_43 : decode cM_omit 43 = .ok (.iload_n 2, 1) := by decide +kernel
theorem dM_omit_44 : decode cM_omit 44 = .ok (.iconst (-1), 1) := by decide +kernel
theorem dM_omit_45 : decode cM_omit 45 = .ok (.iastore, 1) := by decide +kernel
theorem dM_omit_46 : decode cM_omit 46 = .ok (.iload_n 3, 1) := by decide +kernel
theorem dM_omit_47 : decode cM_omit 47 = .ok (.ireturn, 1) := by decide +kernel
theorem dM_original_0 : decode cM_original 0 = .ok (.aload_n 0, 1) := by decide +kernel
theorem dM_original_1 : decode cM_original 1 = .ok (.iload_n 1, 1) := by decide +kernel
theorem dM_original_2 : decode cM_original 2 = .ok (.ifCond .lt 34, 3) := by decide +kernel
theorem dM_original_5 : decode cM_original 5 = .ok (.iload_n 1, 1) := by decide +kernel
theorem dM_original_6 : decode cM_original 6 = .ok (.sipush 9999, 3) := by decide +kernel
theorem dM_original_9 : decode cM_original 9 = .ok (.if_icmp .gt 27, 3) := by decide +kernel
theorem dM_original_12 : decode cM_original 12 = .ok (.iload_n 2, 1) := by decide +kernel
theorem dM_original_13 : decode cM_original 13 = .ok (.ifCond .lt 23, 3) := by decide +kernel
theorem dM_original_16 : decode cM_original 16 = .ok (.iload_n 2, 1) := by decide +kernel
theorem dM_original_17 : decode cM_original 17 = .ok (.ldc 76, 2) := by decide +kernel
theorem dM_original_19 : decode cM_original 19 = .ok (.if_icmp .gt 17, 3) := by decide +kernel
theorem dM_original_22 : decode cM_original 22 = .ok (.iload_n 3, 1) := by decide +kernel
theorem dM_original_23 : decode cM_original 23 = .ok (.ifCond .lt 13, 3) := by decide +kernel
theorem dM_original_26 : decode cM_original 26 = .ok (.iload_n 3, 1) := by decide +kernel
theorem dM_original_27 : decode cM_original 27 = .ok (.ldc 77, 2) := by decide +kernel
theorem dM_original_29 : decode cM_original 29 = .ok (.if_icmp .gt 7, 3) := by decide +kernel
theorem dM_original_32 : decode cM_original 32 = .ok (.iconst 1, 1) := by decide +kernel
theorem dM_original_33 : decode cM_original 33 = .ok (.goto 4, 3) := by decide +kernel
theorem dM_original_36 : decode cM_original 36 = .ok (.iconst 0, 1) := by decide +kernel
theorem dM_original_37 : decode cM_original 37 = .ok (.invokevirtual 50, 3) := by decide +kernel
theorem dM_original_40 : decode cM_original 40 = .ok (.ifCond .eq 23, 3) := by decide +kernel
theorem dM_original_43 : decode cM_original 43 = .ok (.aload_n 0, 1) := by decide +kernel
theorem dM_original_44 : decode cM_original 44 = .ok (.getfield 26, 3) := by decide +kernel
theorem dM_original_47 : decode cM_original 47 = .ok (.bipush 14, 2) := by decide +kernel
theorem dM_original_49 : decode cM_original 49 = .ok (.bipush 42, 2) := by decide +kernel
theorem dM_original_51 : decode cM_original 51 = .ok (.iastore, 1) := by decide +kernel
theorem dM_original_52 : decode cM_original 52 = .ok (.aload_n 0, 1) := by decide +kernel
theorem dM_original_53 : decode cM_original 53 = .ok (.aload_n 0, 1) := by decide +kernel
theorem dM_original_54 : decode cM_original 54 = .ok (.getfield 23, 3) := by decide +kernel
theorem dM_original_57 : decode cM_original 57 = .ok (.iload_n 1, 1) := by decide +kernel
theorem dM_original_58 : decode cM_original 58 = .ok (.iload_n 2, 1) := by decide +kernel
theorem dM_original_59 : decode cM_original 59 = .ok (.iload_n 3, 1) := by decide +kernel
theorem dM_original_60 : decode cM_original 60 = .ok (.invokevirtual 78, 3) := by decide +kernel
theorem dM_original_63 : decode cM_original 63 = .ok (.return_, 1) := by decide +kernel
theorem dM_pack_0 : decode cM_pack 0 = .ok (.iconst 0, 1) := by decide +kernel
theorem dM_pack_1 : decode cM_pack 1 = .ok (.istore 5, 2) := by decide +kernel
theorem dM_pack_3 : decode cM_pack 3 = .ok (.iload 4, 2) := by decide +kernel
theorem dM_pack_5 : decode cM_pack 5 = .ok (.iconst 2, 1) := by decide +kernel
theorem dM_pack_6 : decode cM_pack 6 = .ok (.irem, 1) := by decide +kernel
theorem dM_pack_7 : decode cM_pack 7 = .ok (.iconst 1, 1) := by decide +kernel
theorem dM_pack_8 : decode cM_pack 8 = .ok (.if_icmp .ne 25, 3) := by decide +kernel
theorem dM_pack_11 : decode cM_pack 11 = .ok (.aload_n 1, 1) := by decide +kernel
theorem dM_pack_12 : decode cM_pack 12 = .ok (.aload_n 0, 1) := by decide +kernel
theorem dM_pack_13 : decode cM_pack 13 = .ok (.getfield 84, 3) := by decide +kernel
theorem dM_pack_16 : decode cM_pack 16 = .ok (.aload_n 2, 1) := by decide +kernel
theorem dM_pack_17 : decode cM_pack 17 = .ok (.iload_n 3, 1) := by decide +kernel
theorem dM_pack_18 : decode cM_pack 18 = .ok (.iaload, 1) := by decide +kernel
theorem dM_pack_19 : decode cM_pack 19 = .ok (.iastore, 1) := by decide +kernel
theorem dM_pack_20 : decode cM_pack 20 = .ok (.aload_n 0, 1) := by decide +kernel
theorem dM_pack_21 : decode cM_pack 21 = .ok (.dup, 1) := by decide +kernel
theorem dM_pack_22 : decode cM_pack 22 = .ok (.getfield 84, 3) := by decide +kernel
theorem dM_pack_25 : decode cM_pack 25 = .ok (.iconst 1, 1) := by decide +kernel
theorem dM_pack_26 : decode cM_pack 26 = .ok (.iadd, 1) := by decide +kernel
theorem dM_pack_27 : decode cM_pack 27 = .ok (.putfield 84, 3) := by decide +kernel
theorem dM_pack_30 : decode cM_pack 30 = .ok (.iconst 1, 1) := by decide +kernel
theorem dM_pack_31 : decode cM_pack 31 = .ok (.istore 5, 2) := by decide +kernel
theorem dM_pack_33 : decode cM_pack 33 = .ok (.iload 5, 2) := by decide +kernel
theorem dM_pack_35 : decode cM_pack 35 = .ok (.iload 4, 2) := by decide +kernel
theorem dM_pack_37 : decode cM_pack 37 = .ok (.if_icmp .ge 43, 3) := by decide +kernel
theorem dM_pack_40 : decode cM_pack 40 = .ok (.aload_n 1, 1) := by decide +kernel
theorem dM_pack_41 : decode cM_pack 41 = .ok (.aload_n 0, 1) := by decide +kernel
theorem dM_pack_42 : decode cM_pack 42 = .ok (.getfield 84, 3) := by decide +kernel
theorem dM_pack_45 : decode cM_pack 45 = .ok (.bipush 16, 2) := by decide +kernel
theorem dM_pack_47 : decode cM_pack 47 = .ok (.aload_n 2, 1) := by decide +kernel
theorem dM_pack_48 : decode cM_pack 48 = .ok (.iload_n 3, 1) := by decide +kernel
theorem dM_pack_49 : decode cM_pack 49 = .ok (.iload 5, 2) := by decide +kernel
theorem dM_pack_51 : decode cM_pack 51 = .ok (.iadd, 1) := by decide +kernel
theorem dM_pack_52 : decode cM_pack 52 = .ok (.iaload, 1) := by decide +kernel
theorem dM_pack_53 : decode cM_pack 53 = .ok (.imul, 1) := by decide +kernel
theorem dM_pack_54 : decode cM_pack 54 = .ok (.aload_n 2, 1) := by decide +kernel
theorem dM_pack_55 : decode cM_pack 55 = .ok (.iload_n 3, 1) := by decide +kernel
theorem dM_pack_56 : decode cM_pack 56 = .ok (.iload 5, 2) := by decide +kernel
theorem dM_pack_58 : decode cM_pack 58 = .ok (.iadd, 1) := by decide +kernel
theorem dM_pack_59 : decode cM_pack 59 = .ok (.iconst 1, 1) := by decide +kernel
theorem dM_pack_60 : decode cM_pack 60 = .ok (.iadd, 1) := by decide +kernel
theorem dM_pack_61 : decode cM_pack 61 = .ok (.iaload, 1) := by decide +kernel
theorem dM_pack_62 : decode cM_pack 62 = .ok (.iadd, 1) := by decide +kernel
theorem dM_pack_63 : decode cM_pack 63 = .ok (.iastore, 1) := by decide +kernel
theorem dM_pack_64 : decode cM_pack 64 = .ok (.aload_n 0, 1) := by decide +kernel
theorem dM_pack_65 : decode cM_pack 65 = .ok (.dup, 1) := by decide +kernel
theorem dM_pack_66 : decode cM_pack 66 = .ok (.getfield 84, 3) := by decide +kernel
theorem dM_pack_69 : decode cM_pack 69 = .ok (.iconst 1, 1) := by decide +kernel
theorem dM_pack_70 : decode cM_pack 70 = .ok (.iadd, 1) := by decide +kernel
theorem dM_pack_71 : decode cM_pack 71 = .ok (.putfield 84, 3) := by decide +kernel
theorem dM_pack_74 : decode cM_pack 74 = .ok (.iinc 5 2, 3) := by decide +kernel
theorem dM_pack_77 : decode cM_pack 77 = .ok (.goto (-44), 3) := by decide +kernel
theorem dM_pack_80 : decode cM_pack 80 = .ok (.return_, 1) := by decide +kernel
theorem dM_read_0 : decode cM_read 0 = .ok (.aload_n 0, 1) := by decide +kernel
theorem dM_read_1 : decode cM_read 1 = .ok (.iconst 0, 1) := by decide +kernel
theorem dM_read_2 : decode cM_read 2 = .ok (.putfield 45, 3) := by decide +kernel
theorem dM_read_5 : decode cM_read 5 = .ok (.aload_n 0, 1) := by decide +kernel
theorem dM_read_6 : decode cM_read 6 = .ok (.invokevirtual 135, 3) := by decide +kernel
theorem dM_read_9 : decode cM_read 9 = .ok (.aload_n 0, 1) := by decide +kernel
theorem dM_read_10 : decode cM_read 10 = .ok (.getfield 102, 3) := by decide +kernel
theorem dM_read_13 : decode cM_read 13 = .ok (.ifCond .le 5, 3) := by decide +kernel
theorem dM_read_16 : decode cM_read 16 = .ok (.iconst 0, 1) := by decide +kernel
theorem dM_read_17 : decode cM_read 17 = .ok (.ireturn, 1) := by decide +kernel
theorem dM_read_18 : decode cM_read 18 = .ok (.aload_n 0, 1) := by decide +kernel
theorem dM_read_19 : decode cM_read 19 = .ok (.aload_n 0, 1) := by decide +kernel
theorem dM_read_20 : decode cM_read 20 = .ok (.getfield 122, 3) := by decide +kernel
theorem dM_read_23 : decode cM_read 23 = .ok (.putfield 19, 3) := by decide +kernel
theorem dM_read_26 : decode cM_read 26 = .ok (.iconst 0, 1) := by decide +kernel
theorem dM_read_27 : decode cM_read 27 = .ok (.istore_n 1, 1) := by decide +kernel
theorem dM_read_28 : decode cM_read 28 = .ok (.iload_n 1, 1) := by decide +kernel
theorem dM_read_29 : decode cM_read 29 = .ok (.bipush 16, 2) := by decide +kernel
theorem dM_read_31 : decode cM_read 31 = .ok (.if_icmp .ge 61, 3) := by decide +kernel
theorem dM_read_34 : decode cM_read 34 = .ok (.aload_n 0, 1) := by decide +kernel
theorem dM_read_35 : decode cM_read 35 = .ok (.getfield 26, 3) := by decide +kernel
theorem dM_read_38 : decode cM_read 38 = .ok (.iload_n 1, 1) := by decide +kernel
theorem dM_read_39 : decode cM_read 39 = .ok (.aload_n 0, 1) := by decide +kernel
theorem dM_read_40 : decode cM_read 40 = .ok (.getfield 32, 3) := by decide +kernel
theorem dM_read_43 : decode cM_read 43 = .ok (.iload_n 1, 1) := by decide +kernel
theorem dM_read_44 : decode cM_read 44 = .ok (.iaload, 1) := by decide +kernel
theorem dM_read_45 : decode cM_read 45 = .ok (.iastore, 1) := by decide +kernel
theorem dM_read_46 : decode cM_read 46 = .ok (.iconst 0, 1) := by decide +kernel
theorem dM_read_47 : decode cM_read 47 = .ok (.istore_n 2, 1) := by decide +kernel
theorem dM_read_48 : decode cM_read 48 = .ok (.iload_n 2, 1) := by decide +kernel
theorem dM_read_49 : decode cM_read 49 = .ok (.aload_n 0, 1) := by decide +kernel
theorem dM_read_50 : decode cM_read 50 = .ok (.getfield 32, 3) := by decide +kernel
theorem dM_read_53 : decode cM_read 53 = .ok (.iload_n 1, 1) := by decide +kernel
theorem dM_read_54 : decode cM_read 54 = .ok (.iaload, 1) := by decide +kernel
theorem dM_read_55 : decode cM_read 55 = .ok (.if_icmp .ge 31, 3) := by decide +kernel
theorem dM_read_58 : decode cM_read 58 = .ok (.aload_n 0, 1) := by decide +kernel
theorem dM_read_59 : decode cM_read 59 = .ok (.getfield 23, 3) := by decide +kernel
theorem dM_read_62 : decode cM_read 62 = .ok (.bipush 42, 2) := by decide +kernel
theorem dM_read_64 : decode cM_read 64 = .ok (.iload_n 1, 1) := by decide +kernel
theorem dM_read_65 : decode cM_read 65 = .ok (.imul, 1) := by decide +kernel
theorem dM_read_66 : decode cM_read 66 = .ok (.iload_n 2, 1) := by decide +kernel
theorem dM_read_67 : decode cM_read 67 = .ok (.iadd, 1) := by decide +kernel
theorem dM_read_68 : decode cM_read 68 = .ok (.aload_n 0, 1) := by decide +kernel
theorem dM_read_69 : decode cM_read 69 = .ok (.getfield 29, 3) := by decide +kernel
theorem dM_read_72 : decode cM_read 72 = .ok (.bipush 42, 2) := by decide +kernel
theorem dM_read_74 : decode cM_read 74 = .ok (.iload_n 1, 1) := by decide +kernel
theorem dM_read_75 : decode cM_read 75 = .ok (.imul, 1) := by decide +kernel
theorem dM_read_76 : decode cM_read 76 = .ok (.iload_n 2, 1) := by decide +kernel
theorem dM_read_77 : decode cM_read 77 = .ok (.iadd, 1) := by decide +kernel
theorem dM_read_78 : decode cM_read 78 = .ok (.iaload, 1) := by decide +kernel
theorem dM_read_79 : decode cM_read 79 = .ok (.iastore, 1) := by decide +kernel
theorem dM_read_80 : decode cM_read 80 = .ok (.iinc 2 1, 3) := by decide +kernel
theorem dM_read_83 : decode cM_read 83 = .ok (.goto (-35), 3) := by decide +kernel
theorem dM_read_86 : decode cM_read 86 = .ok (.iinc 1 1, 3) := by decide +kernel
theorem dM_read_89 : decode cM_read 89 = .ok (.goto (-61), 3) := by decide +kernel
theorem dM_read_92 : decode cM_read 92 = .ok (.iconst 1, 1) := by decide +kernel
theorem dM_read_93 : decode cM_read 93 = .ok (.ireturn, 1) := by decide +kernel
theorem dM_readTape_0 : decode cM_readTape 0 = .ok (.aload_n 0, 1) := by decide +kernel
theorem dM_readTape_1 : decode cM_readTape 1 = .ok (.iconst 0, 1) := by decide +kernel
theorem dM_readTape_2 : decode cM_readTape 2 = .ok (.putfield 108, 3) := by decide +kernel
theorem dM_readTape_5 : decode cM_readTape 5 = .ok (.aload_n 0, 1) := by decide +kernel
theorem dM_readTape_6 : decode cM_readTape 6 = .ok (.iconst 0, 1) := by decide +kernel
theorem dM_readTape_7 : decode cM_readTape 7 = .ok (.putfield 102, 3) := by decide +kernel
theorem dM_readTape_10 : decode cM_readTape 10 = .ok (.aload_n 0, 1) := by decide +kernel
theorem dM_readTape_11 : decode cM_readTape 11 = .ok (.iconst (-1), 1) := by decide +kernel
theorem dM_readTape_12 : decode cM_readTape 12 = .ok (.putfield 105, 3) := by decide +kernel
theorem dM_readTape_15 : decode cM_readTape 15 = .ok (.aload_n 0, 1) := by decide +kernel
theorem dM_readTape_16 : decode cM_readTape 16 = .ok (.getfield 32, 3) := by decide +kernel
theorem dM_readTape_19 : decode cM_readTape 19 = .ok (.invokestatic 41, 3) := by decide +kernel
theorem dM_readTape_22 : decode cM_readTape 22 = .ok (.aload_n 0, 1) := by decide +kernel
theorem dM_readTape_23 : decode cM_readTape 23 = .ok (.iconst 4, 1) := by decide +kernel
theorem dM_readTape_24 : decode cM_readTape 24 = .ok (.aload_n 0, 1) := by decide +kernel
theorem dM_readTape_25 : decode cM_readTape 25 = .ok (.getfield 38, 3) := by decide +kernel
theorem dM_readTape_28 : decode cM_readTape 28 = .ok (.iconst 0, 1) := by decide +kernel
theorem dM_readTape_29 : decode cM_readTape 29 = .ok (.invokevirtual 115, 3) := by decide +kernel
theorem dM_readTape_32 : decode cM_readTape 32 = .ok (.aload_n 0, 1) := by decide +kernel
theorem dM_readTape_33 : decode cM_readTape 33 = .ok (.getfield 102, 3) := by decide +kernel
theorem dM_readTape_36 : decode cM_readTape 36 = .ok (.ifCond .le 4, 3) := by decide +kernel
theorem dM_readTape_39 : decode cM_readTape 39 = .ok (.return_, 1) := by decide +kernel
theorem dM_readTape_40 : decode cM_readTape 40 = .ok (.aload_n 0, 1) := by decide +kernel
theorem dM_readTape_41 : decode cM_readTape 41 = .ok (.sipush 1000, 3) := by decide +kernel
theorem dM_readTape_44 : decode cM_readTape 44 = .ok (.aload_n 0, 1) := by decide +kernel
theorem dM_readTape_45 : decode cM_readTape 45 = .ok (.getfield 38, 3) := by decide +kernel
theorem dM_readTape_48 : decode cM_readTape 48 = .ok (.iconst 0, 1) := by decide +kernel
theorem dM_readTape_49 : decode cM_readTape 49 = .ok (.iaload, 1) := by decide +kernel
theorem dM_readTape_50 : decode cM_readTape 50 = .ok (.imul, 1) := by decide +kernel
theorem dM_readTape_51 : decode cM_readTape 51 = .ok (.bipush 100, 2) := by decide +kernel
theorem dM_readTape_53 : decode cM_readTape 53 = .ok (.aload_n 0, 1) := by decide +kernel
theorem dM_readTape_54 : decode cM_readTape 54 = .ok (.getfield 38, 3) := by decide +kernel
theorem dM_readTape_57 : decode cM_readTape 57 = .ok (.iconst 1, 1) := by decide +kernel
theorem dM_readTape_58 : decode cM_readTape 58 = .ok (.iaload, 1) := by decide +kernel
theorem dM_readTape_59 : decode cM_readTape 59 = .ok (.imul, 1) := by decide +kernel
theorem dM_readTape_60 : decode cM_readTape 60 = .ok (.iadd, 1) := by decide +kernel
theorem dM_readTape_61 : decode cM_readTape 61 = .ok (.bipush 10, 2) := by decide +kernel
theorem dM_readTape_63 : decode cM_readTape 63 = .ok (.aload_n 0, 1) := by decide +kernel
theorem dM_readTape_64 : decode cM_readTape 64 = .ok (.getfield 38, 3) := by decide +kernel
theorem dM_readTape_67 : decode cM_readTape 67 = .ok (.iconst 2, 1) := by decide +kernel
theorem dM_readTape_68 : decode cM_readTape 68 = .ok (.iaload, 1) := by decide +kernel
theorem dM_readTape_69 : decode cM_readTape 69 = .ok (.imul, 1) := by decide +kernel
theorem dM_readTape_70 : decode cM_readTape 70 = .ok (.iadd, 1) := by decide +kernel
theorem dM_readTape_71 : decode cM_readTape 71 = .ok (.aload_n 0, 1) := by decide +kernel
theorem dM_readTape_72 : decode cM_readTape 72 = .ok (.getfield 38, 3) := by decide +kernel
theorem dM_readTape_75 : decode cM_readTape 75 = .ok (.iconst 3, 1) := by decide +kernel
theorem dM_readTape_76 : decode cM_readTape 76 = .ok (.iaload, 1) := by decide +kernel
theorem dM_readTape_77 : decode cM_readTape 77 = .ok (.iadd, 1) := by decide +kernel
theorem dM_readTape_78 : decode cM_readTape 78 = .ok (.putfield 122, 3) := by decide +kernel
theorem dM_readTape_81 : decode cM_readTape 81 = .ok (.aload_n 0, 1) := by decide +kernel
theorem dM_readTape_82 : decode cM_readTape 82 = .ok (.getfield 122, 3) := by decide +kernel
theorem dM_readTape_85 : decode cM_readTape 85 = .ok (.invokestatic 125, 3) := by decide +kernel
theorem dM_readTape_88 : decode cM_readTape 88 = .ok (.ifCond .ne 10, 3) := by decide +kernel
theorem dM_readTape_91 : decode cM_readTape 91 = .ok (.aload_n 0, 1) := by decide +kernel
theorem dM_readTape_92 : decode cM_readTape 92 = .ok (.iconst 3, 1) := by decide +kernel
theorem dM_readTape_93 : decode cM_readTape 93 = .ok (.iconst 0, 1) := by decide +kernel
theorem dM_readTape_94 : decode cM_readTape 94 = .ok (.invokevirtual 111, 3) := by decide +kernel
theorem dM_readTape_97 : decode cM_readTape 97 = .ok (.return_, 1) := by decide +kernel
theorem dM_readTape_98 : decode cM_readTape 98 = .ok (.aload_n 0, 1) := by decide +kernel
theorem dM_readTape_99 : decode cM_readTape 99 = .ok (.invokevirtual 129, 3) := by decide +kernel
theorem dM_readTape_102 : decode cM_readTape 102 = .ok (.iconst 0, 1) := by decide +kernel
theorem dM_readTape_103 : decode cM_readTape 103 = .ok (.istore_n 1, 1) := by decide +kernel
theorem dM_readTape_104 : decode cM_readTape 104 = .ok (.iload_n 1, 1) := by decide +kernel
theorem dM_readTape_105 : decode cM_readTape 105 = .ok (.bipush 16, 2) := by decide +kernel
theorem dM_readTape_107 : decode cM_readTape 107 = .ok (.if_icmp .ge 30, 3) := by decide +kernel
theorem dM_readTape_110 : decode cM_readTape 110 = .ok (.aload_n 0, 1) := by decide +kernel
theorem dM_readTape_111 : decode cM_readTape 111 = .ok (.getfield 102, 3) := by decide +kernel
theorem dM_readTape_114 : decode cM_readTape 114 = .ok (.ifCond .ne 23, 3) := by decide +kernel
theorem dM_readTape_117 : decode cM_readTape 117 = .ok (.aload_n 0, 1) := by decide +kernel
theorem dM_readTape_118 : decode cM_readTape 118 = .ok (.getfield 32, 3) := by decide +kernel
theorem dM_readTape_121 : decode cM_readTape 121 = .ok (.iload_n 1, 1) := by decide +kernel
theorem dM_readTape_122 : decode cM_readTape 122 = .ok (.iaload, 1) := by decide +kernel
theorem dM_readTape_123 : decode cM_readTape 123 = .ok (.ifCond .ne 8, 3) := by decide +kernel
theorem dM_readTape_126 : decode cM_readTape 126 = .ok (.aload_n 0, 1) := by decide +kernel
theorem dM_readTape_127 : decode cM_readTape 127 = .ok (.iload_n 1, 1) := by decide +kernel
theorem dM_readTape_128 : decode cM_readTape 128 = .ok (.invokevirtual 132, 3) := by decide +kernel
theorem dM_readTape_131 : decode cM_readTape 131 = .ok (.iinc 1 1, 3) := by decide +kernel
theorem dM_readTape_134 : decode cM_readTape 134 = .ok (.goto (-30), 3) := by decide +kernel
theorem dM_readTape_137 : decode cM_readTape 137 = .ok (.aload_n 0, 1) := by decide +kernel
theorem dM_readTape_138 : decode cM_readTape 138 = .ok (.getfield 108, 3) := by decide +kernel
theorem dM_readTape_141 : decode cM_readTape 141 = .ok (.aload_n 0, 1) := by decide +kernel
theorem dM_readTape_142 : decode cM_readTape 142 = .ok (.getfield 99, 3) := by decide +kernel
theorem dM_readTape_145 : decode cM_readTape 145 = .ok (.if_icmp .ge 13, 3) := by decide +kernel
theorem dM_readTape_148 : decode cM_readTape 148 = .ok (.aload_n 0, 1) := by decide +kernel
theorem dM_readTape_149 : decode cM_readTape 149 = .ok (.bipush 7, 2) := by decide +kernel
theorem dM_readTape_151 : decode cM_readTape 151 = .ok (.aload_n 0, 1) := by decide +kernel
theorem dM_readTape_152 : decode cM_readTape 152 = .ok (.getfield 108, 3) := by decide +kernel
theorem dM_readTape_155 : decode cM_readTape 155 = .ok (.invokevirtual 111, 3) := by decide +kernel
theorem dM_readTape_158 : decode cM_readTape 158 = .ok (.return_, 1) := by decide +kernel
theorem dM_setDigits_0 : decode cM_setDigits 0 = .ok (.lload_n 2, 1) := by decide +kernel
theorem dM_setDigits_1 : decode cM_setDigits 1 = .ok (.lstore 5, 2) := by decide +kernel
theorem dM_setDigits_3 : decode cM_setDigits 3 = .ok (.iload 4, 2) := by decide +kernel
theorem dM_setDigits_5 : decode cM_setDigits 5 = .ok (.iconst 1, 1) := by decide +kernel
theorem dM_setDigits_6 : decode cM_setDigits 6 = .ok (.isub, 1) := by decide +kernel
theorem dM_setDigits_7 : decode cM_setDigits 7 = .ok (.istore 7, 2) := by decide +kernel
theorem dM_setDigits_9 : decode cM_setDigits 9 = .ok (.iload 7, 2) := by decide +kernel
theorem dM_setDigits_11 : decode cM_setDigits 11 = .ok (.ifCond .lt 30, 3) := by decide +kernel
theorem dM_setDigits_14 : decode cM_setDigits 14 = .ok (.aload_n 0, 1) := by decide +kernel
theorem dM_setDigits_15 : decode cM_setDigits 15 = .ok (.iload_n 1, 1) := by decide +kernel
theorem dM_setDigits_16 : decode cM_setDigits 16 = .ok (.iload 7, 2) := by decide +kernel
theorem dM_setDigits_18 : decode cM_setDigits 18 = .ok (.iadd, 1) := by decide +kernel
theorem dM_setDigits_19 : decode cM_setDigits 19 = .ok (.lload 5, 2) := by decide +kernel
theorem dM_setDigits_21 : decode cM_setDigits 21 = .ok (.ldc2_w 48, 3) := by decide +kernel
theorem dM_setDigits_24 : decode cM_setDigits 24 = .ok (.lrem, 1) := by decide +kernel
theorem dM_setDigits_25 : decode cM_setDigits 25 = .ok (.l2i, 1) := by decide +kernel
theorem dM_setDigits_26 : decode cM_setDigits 26 = .ok (.iastore, 1) := by decide +kernel
theorem dM_setDigits_27 : decode cM_setDigits 27 = .ok (.lload 5, 2) := by decide +kernel
theorem dM_setDigits_29 : decode cM_setDigits 29 = .ok (.ldc2_w 48, 3) := by decide +kernel
theorem dM_setDigits_32 : decode cM_setDigits 32 = .ok (.ldiv, 1) := by decide +kernel
theorem dM_setDigits_33 : decode cM_setDigits 33 = .ok (.lstore 5, 2) := by decide +kernel
theorem dM_setDigits_35 : decode cM_setDigits 35 = .ok (.iinc 7 (-1), 3) := by decide +kernel
theorem dM_setDigits_38 : decode cM_setDigits 38 = .ok (.goto (-29), 3) := by decide +kernel
theorem dM_setDigits_41 : decode cM_setDigits 41 = .ok (.return_, 1) := by decide +kernel
theorem dM_setOriginal_0 : decode cM_setOriginal 0 = .ok (.sipush 588, 3) := by decide +kernel
theorem dM_setOriginal_3 : decode cM_setOriginal 3 = .ok (.istore 5, 2) := by decide +kernel
theorem dM_setOriginal_5 : decode cM_setOriginal 5 = .ok (.aload_n 1, 1) := by decide +kernel
theorem dM_setOriginal_6 : decode cM_setOriginal 6 = .ok (.iload 5, 2) := by decide +kernel
theorem dM_setOriginal_8 : decode cM_setOriginal 8 = .ok (.iload_n 2, 1) := by decide +kernel
theorem dM_setOriginal_9 : decode cM_setOriginal 9 = .ok (.i2l, 1) := by decide +kernel
theorem dM_setOriginal_10 : decode cM_setOriginal 10 = .ok (.iconst 4, 1) := by decide +kernel
theorem dM_setOriginal_11 : decode cM_setOriginal 11 = .ok (.invokestatic 62, 3) := by decide +kernel
theorem dM_setOriginal_14 : decode cM_setOriginal 14 = .ok (.aload_n 1, 1) := by decide +kernel
theorem dM_setOriginal_15 : decode cM_setOriginal 15 = .ok (.iload 5, 2) := by decide +kernel
theorem dM_setOriginal_17 : decode cM_setOriginal 17 = .ok (.iconst 4, 1) := by decide +kernel
theorem dM_setOriginal_18 : decode cM_setOriginal 18 = .ok (.iadd, 1) := by decide +kernel
theorem dM_setOriginal_19 : decode cM_setOriginal 19 = .ok (.iload_n 3, 1) := by decide +kernel
theorem dM_setOriginal_20 : decode cM_setOriginal 20 = .ok (.i2l, 1) := by decide +kernel
theorem dM_setOriginal_21 : decode cM_setOriginal 21 = .ok (.bipush 6, 2) := by decide +kernel
theorem dM_setOriginal_23 : decode cM_setOriginal 23 = .ok (.invokestatic 62, 3) := by decide +kernel
theorem dM_setOriginal_26 : decode cM_setOriginal 26 = .ok (.aload_n 1, 1) := by decide +kernel
theorem dM_setOriginal_27 : decode cM_setOriginal 27 = .ok (.iload 5, 2) := by decide +kernel
theorem dM_setOriginal_29 : decode cM_setOriginal 29 = .ok (.bipush 10, 2) := by decide +kernel
theorem dM_setOriginal_31 : decode cM_setOriginal 31 = .ok (.iadd, 1) := by decide +kernel
theorem dM_setOriginal_32 : decode cM_setOriginal 32 = .ok (.iload 4, 2) := by decide +kernel
theorem dM_setOriginal_34 : decode cM_setOriginal 34 = .ok (.i2l, 1) := by decide +kernel
theorem dM_setOriginal_35 : decode cM_setOriginal 35 = .ok (.bipush 21, 2) := by decide +kernel
theorem dM_setOriginal_37 : decode cM_setOriginal 37 = .ok (.invokestatic 62, 3) := by decide +kernel
theorem dM_setOriginal_40 : decode cM_setOriginal 40 = .ok (.aload_n 1, 1) := by decide +kernel
theorem dM_setOriginal_41 : decode cM_setOriginal 41 = .ok (.iload 5, 2) := by decide +kernel
theorem dM_setOriginal_43 : decode cM_setOriginal 43 = .ok (.bipush 31, 2) := by decide +kernel
theorem dM_setOriginal_45 : decode cM_setOriginal 45 = .ok (.iadd, 1) := by decide +kernel
theorem dM_setOriginal_46 : decode cM_setOriginal 46 = .ok (.lconst 0, 1) := by decide +kernel
theorem dM_setOriginal_47 : decode cM_setOriginal 47 = .ok (.bipush 11, 2) := by decide +kernel
theorem dM_setOriginal_49 : decode cM_setOriginal 49 = .ok (.invokestatic 62, 3) := by decide +kernel
theorem dM_setOriginal_52 : decode cM_setOriginal 52 = .ok (.return_, 1) := by decide +kernel
theorem dM_size_0 : decode cM_size 0 = .ok (.aload_n 0, 1) := by decide +kernel
theorem dM_size_1 : decode cM_size 1 = .ok (.iload_n 1, 1) := by decide +kernel
theorem dM_size_2 : decode cM_size 2 = .ok (.invokevirtual 66, 3) := by decide +kernel
theorem dM_size_5 : decode cM_size 5 = .ok (.istore_n 2, 1) := by decide +kernel
theorem dM_size_6 : decode cM_size 6 = .ok (.aload_n 0, 1) := by decide +kernel
theorem dM_size_7 : decode cM_size 7 = .ok (.iload_n 2, 1) := by decide +kernel
theorem dM_size_8 : decode cM_size 8 = .ok (.ifCond .lt 7, 3) := by decide +kernel
theorem dM_size_11 : decode cM_size 11 = .ok (.iconst 1, 1) := by decide +kernel
theorem dM_size_12 : decode cM_size 12 = .ok (.goto 4, 3) := by decide +kernel
theorem dM_size_15 : decode cM_size 15 = .ok (.iconst 0, 1) := by decide +kernel
theorem dM_size_16 : decode cM_size 16 = .ok (.invokevirtual 50, 3) := by decide +kernel
theorem dM_size_19 : decode cM_size 19 = .ok (.ifCond .eq 12, 3) := by decide +kernel
theorem dM_size_22 : decode cM_size 22 = .ok (.aload_n 0, 1) := by decide +kernel
theorem dM_size_23 : decode cM_size 23 = .ok (.getfield 26, 3) := by decide +kernel
theorem dM_size_26 : decode cM_size 26 = .ok (.iload_n 2, 1) := by decide +kernel
theorem dM_size_27 : decode cM_size 27 = .ok (.iaload, 1) := by decide +kernel
theorem dM_size_28 : decode cM_size 28 = .ok (.goto 4, 3) := by decide +kernel
theorem dM_size_31 : decode cM_size 31 = .ok (.iconst 0, 1) := by decide +kernel
theorem dM_size_32 : decode cM_size 32 = .ok (.ireturn, 1) := by decide +kernel
theorem dM_spoil_0 : decode cM_spoil 0 = .ok (.aload_n 0, 1) := by decide +kernel
theorem dM_spoil_1 : decode cM_spoil 1 = .ok (.iload_n 1, 1) := by decide +kernel
theorem dM_spoil_2 : decode cM_spoil 2 = .ok (.ifCond .lt 26, 3) := by decide +kernel
theorem dM_spoil_5 : decode cM_spoil 5 = .ok (.iload_n 1, 1) := by decide +kernel
theorem dM_spoil_6 : decode cM_spoil 6 = .ok (.aload_n 0, 1) := by decide +kernel
theorem dM_spoil_7 : decode cM_spoil 7 = .ok (.getfield 99, 3) := by decide +kernel
theorem dM_spoil_10 : decode cM_spoil 10 = .ok (.if_icmp .ge 18, 3) := by decide +kernel
theorem dM_spoil_13 : decode cM_spoil 13 = .ok (.iload_n 2, 1) := by decide +kernel
theorem dM_spoil_14 : decode cM_spoil 14 = .ok (.ifCond .lt 14, 3) := by decide +kernel
theorem dM_spoil_17 : decode cM_spoil 17 = .ok (.iload_n 2, 1) := by decide +kernel
theorem dM_spoil_18 : decode cM_spoil 18 = .ok (.sipush 255, 3) := by decide +kernel
theorem dM_spoil_21 : decode cM_spoil 21 = .ok (.if_icmp .gt 7, 3) := by decide +kernel
theorem dM_spoil_24 : decode cM_spoil 24 = .ok (.iconst 1, 1) := by decide +kernel
theorem dM_spoil_25 : decode cM_spoil 25 = .ok (.goto 4, 3) := by decide +kernel
theorem dM_spoil_28 : decode cM_spoil 28 = .ok (.iconst 0, 1) := by decide +kernel
theorem dM_spoil_29 : decode cM_spoil 29 = .ok (.invokevirtual 50, 3) := by decide +kernel
theorem dM_spoil_32 : decode cM_spoil 32 = .ok (.ifCond .ne 5, 3) := by decide +kernel
theorem dM_spoil_35 : decode cM_spoil 35 = .ok (.iconst 0, 1) := by decide +kernel
theorem dM_spoil_36 : decode cM_spoil 36 = .ok (.ireturn, 1) := by decide +kernel
theorem dM_spoil_37 : decode cM_spoil 37 = .ok (.aload_n 0, 1) := by decide +kernel
theorem dM_spoil_38 : decode cM_spoil 38 = .ok (.getfield 35, 3) := by decide +kernel
theorem dM_spoil_41 : decode cM_spoil 41 = .ok (.iload_n 1, 1) := by decide +kernel
theorem dM_spoil_42 : decode cM_spoil 42 = .ok (.dup2, 1) := by decide +kernel
theorem dM_spoil_43 : decode cM_spoil 43 = .ok (.iaload, 1) := by decide +kernel
theorem dM_spoil_44 : decode cM_spoil 44 = .ok (.iload_n 2, 1) := by decide +kernel
theorem dM_spoil_45 : decode cM_spoil 45 = .ok (.ixor, 1) := by decide +kernel
theorem dM_spoil_46 : decode cM_spoil 46 = .ok (.iastore, 1) := by decide +kernel
theorem dM_spoil_47 : decode cM_spoil 47 = .ok (.aload_n 0, 1) := by decide +kernel
theorem dM_spoil_48 : decode cM_spoil 48 = .ok (.getfield 35, 3) := by decide +kernel
theorem dM_spoil_51 : decode cM_spoil 51 = .ok (.iload_n 1, 1) := by decide +kernel
theorem dM_spoil_52 : decode cM_spoil 52 = .ok (.iaload, 1) := by decide +kernel
theorem dM_spoil_53 : decode cM_spoil 53 = .ok (.ireturn, 1) := by decide +kernel
theorem dM_takeDigits_0 : decode cM_takeDigits 0 = .ok (.iload_n 1, 1) := by decide +kernel
theorem dM_takeDigits_1 : decode cM_takeDigits 1 = .ok (.iconst 1, 1) := by decide +kernel
theorem dM_takeDigits_2 : decode cM_takeDigits 2 = .ok (.iadd, 1) := by decide +kernel
theorem dM_takeDigits_3 : decode cM_takeDigits 3 = .ok (.iconst 2, 1) := by decide +kernel
theorem dM_takeDigits_4 : decode cM_takeDigits 4 = .ok (.idiv, 1) := by decide +kernel
theorem dM_takeDigits_5 : decode cM_takeDigits 5 = .ok (.istore 4, 2) := by decide +kernel
theorem dM_takeDigits_7 : decode cM_takeDigits 7 = .ok (.aload_n 0, 1) := by decide +kernel
theorem dM_takeDigits_8 : decode cM_takeDigits 8 = .ok (.getfield 108, 3) := by decide +kernel
theorem dM_takeDigits_11 : decode cM_takeDigits 11 = .ok (.iload 4, 2) := by decide +kernel
theorem dM_takeDigits_13 : decode cM_takeDigits 13 = .ok (.iadd, 1) := by decide +kernel
theorem dM_takeDigits_14 : decode cM_takeDigits 14 = .ok (.aload_n 0, 1) := by decide +kernel
theorem dM_takeDigits_15 : decode cM_takeDigits 15 = .ok (.getfield 99, 3) := by decide +kernel
theorem dM_takeDigits_18 : decode cM_takeDigits 18 = .ok (.if_icmp .le 12, 3) := by decide +kernel
theorem dM_takeDigits_21 : decode cM_takeDigits 21 = .ok (.aload_n 0, 1) := by decide +kernel
theorem dM_takeDigits_22 : decode cM_takeDigits 22 = .ok (.iconst 1, 1) := by decide +kernel
theorem dM_takeDigits_23 : decode cM_takeDigits 23 = .ok (.aload_n 0, 1) := by decide +kernel
theorem dM_takeDigits_24 : decode cM_takeDigits 24 = .ok (.getfield 99, 3) := by decide +kernel
theorem dM_takeDigits_27 : decode cM_takeDigits 27 = .ok (.invokevirtual 111, 3) := by decide +kernel
theorem dM_takeDigits_30 : decode cM_takeDigits 30 = .ok (.iload_n 1, 1) := by decide +kernel
theorem dM_takeDigits_31 : decode cM_takeDigits 31 = .ok (.iconst 2, 1) := by decide +kernel
theorem dM_takeDigits_32 : decode cM_takeDigits 32 = .ok (.irem, 1) := by decide +kernel
theorem dM_takeDigits_33 : decode cM_takeDigits 33 = .ok (.istore 5, 2) := by decide +kernel
theorem dM_takeDigits_35 : decode cM_takeDigits 35 = .ok (.iconst 0, 1) := by decide +kernel
theorem dM_takeDigits_36 : decode cM_takeDigits 36 = .ok (.istore 6, 2) := by decide +kernel
theorem dM_takeDigits_38 : decode cM_takeDigits 38 = .ok (.iload 6, 2) := by decide +kernel
theorem dM_takeDigits_40 : decode cM_takeDigits 40 = .ok (.iload 4, 2) := by decide +kernel
theorem dM_takeDigits_42 : decode cM_takeDigits 42 = .ok (.if_icmp .ge 141, 3) := by decide +kernel
theorem dM_takeDigits_45 : decode cM_takeDigits 45 = .ok (.aload_n 0, 1) := by decide +kernel
theorem dM_takeDigits_46 : decode cM_takeDigits 46 = .ok (.getfield 102, 3) := by decide +kernel
theorem dM_takeDigits_49 : decode cM_takeDigits 49 = .ok (.ifCond .ne 134, 3) := by decide +kernel
theorem dM_takeDigits_52 : decode cM_takeDigits 52 = .ok (.aload_n 0, 1) := by decide +kernel
theorem dM_takeDigits_53 : decode cM_takeDigits 53 = .ok (.getfield 35, 3) := by decide +kernel
theorem dM_takeDigits_56 : decode cM_takeDigits 56 = .ok (.aload_n 0, 1) := by decide +kernel
theorem dM_takeDigits_57 : decode cM_takeDigits 57 = .ok (.getfield 108, 3) := by decide +kernel
theorem dM_takeDigits_60 : decode cM_takeDigits 60 = .ok (.iaload, 1) := by decide +kernel
theorem dM_takeDigits_61 : decode cM_takeDigits 61 = .ok (.bipush 16, 2) := by decide +kernel
theorem dM_takeDigits_63 : decode cM_takeDigits 63 = .ok (.idiv, 1) := by decide +kernel
theorem dM_takeDigits_64 : decode cM_takeDigits 64 = .ok (.istore 7, 2) := by decide +kernel
theorem dM_takeDigits_66 : decode cM_takeDigits 66 = .ok (.aload_n 0, 1) := by decide +kernel
theorem dM_takeDigits_67 : decode cM_takeDigits 67 = .ok (.getfield 35, 3) := by decide +kernel
theorem dM_takeDigits_70 : decode cM_takeDigits 70 = .ok (.aload_n 0, 1) := by decide +kernel
theorem dM_takeDigits_71 : decode cM_takeDigits 71 = .ok (.getfield 108, 3) := by decide +kernel
theorem dM_takeDigits_74 : decode cM_takeDigits 74 = .ok (.iaload, 1) := by decide +kernel
theorem dM_takeDigits_75 : decode cM_takeDigits 75 = .ok (.bipush 16, 2) := by decide +kernel
theorem dM_takeDigits_77 : decode cM_takeDigits 77 = .ok (.irem, 1) := by decide +kernel
theorem dM_takeDigits_78 : decode cM_takeDigits 78 = .ok (.istore 8, 2) := by decide +kernel
theorem dM_takeDigits_80 : decode cM_takeDigits 80 = .ok (.iload 5, 2) := by decide +kernel
theorem dM_takeDigits_82 : decode cM_takeDigits 82 = .ok (.iconst 1, 1) := by decide +kernel
theorem dM_takeDigits_83 : decode cM_takeDigits 83 = .ok (.if_icmp .ne 12, 3) := by decide +kernel
theorem dM_takeDigits_86 : decode cM_takeDigits 86 = .ok (.iload 6, 2) := by decide +kernel
theorem dM_takeDigits_88 : decode cM_takeDigits 88 = .ok (.ifCond .ne 7, 3) := by decide +kernel
theorem dM_takeDigits_91 : decode cM_takeDigits 91 = .ok (.iconst 1, 1) := by decide +kernel
theorem dM_takeDigits_92 : decode cM_takeDigits 92 = .ok (.goto 4, 3) := by decide +kernel
theorem dM_takeDigits_95 : decode cM_takeDigits 95 = .ok (.iconst 0, 1) := by decide +kernel
theorem dM_takeDigits_96 : decode cM_takeDigits 96 = .ok (.istore 9, 2) := by decide +kernel
theorem dM_takeDigits_98 : decode cM_takeDigits 98 = .ok (.iload 7, 2) := by decide +kernel
theorem dM_takeDigits_100 : decode cM_takeDigits 100 = .ok (.bipush 9, 2) := by decide +kernel
theorem dM_takeDigits_102 : decode cM_takeDigits 102 = .ok (.if_icmp .gt 20, 3) := by decide +kernel
theorem dM_takeDigits_105 : decode cM_takeDigits 105 = .ok (.iload 8, 2) := by decide +kernel
theorem dM_takeDigits_107 : decode cM_takeDigits 107 = .ok (.bipush 9, 2) := by decide +kernel
theorem dM_takeDigits_109 : decode cM_takeDigits 109 = .ok (.if_icmp .gt 13, 3) := by decide +kernel
theorem dM_takeDigits_112 : decode cM_takeDigits 112 = .ok (.iload 9, 2) := by decide +kernel
theorem dM_takeDigits_114 : decode cM_takeDigits 114 = .ok (.ifCond .eq 20, 3) := by decide +kernel
theorem dM_takeDigits_117 : decode cM_takeDigits 117 = .ok (.iload 7, 2) := by decide +kernel
theorem dM_takeDigits_119 : decode cM_takeDigits 119 = .ok (.ifCond .le 15, 3) := by decide +kernel
theorem dM_takeDigits_122 : decode cM_takeDigits 122 = .ok (.aload_n 0, 1) := by decide +kernel
theorem dM_takeDigits_123 : decode cM_takeDigits 123 = .ok (.iconst 2, 1) := by decide +kernel
theorem dM_takeDigits_124 : decode cM_takeDigits 124 = .ok (.aload_n 0, 1) := by decide +kernel
theorem dM_takeDigits_125 : decode cM_takeDigits 125 = .ok (.getfield 108, 3) := by decide +kernel
theorem dM_takeDigits_128 : decode cM_takeDigits 128 = .ok (.invokevirtual 111, 3) := by decide +kernel
theorem dM_takeDigits_131 : decode cM_takeDigits 131 = .ok (.goto 46, 3) := by decide +kernel
theorem dM_takeDigits_134 : decode cM_takeDigits 134 = .ok (.iload 9, 2) := by decide +kernel
theorem dM_takeDigits_136 : decode cM_takeDigits 136 = .ok (.ifCond .ne 16, 3) := by decide +kernel
theorem dM_takeDigits_139 : decode cM_takeDigits 139 = .ok (.aload_n 2, 1) := by decide +kernel
theorem dM_takeDigits_140 : decode cM_takeDigits 140 = .ok (.iload_n 3, 1) := by decide +kernel
theorem dM_takeDigits_141 : decode cM_takeDigits 141 = .ok (.iconst 2, 1) := by decide +kernel
theorem dM_takeDigits_142 : decode cM_takeDigits 142 = .ok (.iload 6, 2) := by decide +kernel
theorem dM_takeDigits_144 : decode cM_takeDigits 144 = .ok (.imul, 1) := by decide +kernel
theorem dM_takeDigits_145 : decode cM_takeDigits 145 = .ok (.iadd, 1) := by decide +kernel
theorem dM_takeDigits_146 : decode cM_takeDigits 146 = .ok (.iload 5, 2) := by decide +kernel
theorem dM_takeDigits_148 : decode cM_takeDigits 148 = .ok (.isub, 1) := by decide +kernel
theorem dM_takeDigits_149 : decode cM_takeDigits 149 = .ok (.iload 7, 2) := by decide +kernel
theorem dM_takeDigits_151 : decode cM_takeDigits 151 = .ok (.iastore, 1) := by decide +kernel
theorem dM_takeDigits_152 : decode cM_takeDigits 152 = .ok (.aload_n 2, 1) := by decide +kernel
theorem dM_takeDigits_153 : decode cM_takeDigits 153 = .ok (.iload_n 3, 1) := by decide +kernel
theorem dM_takeDigits_154 : decode cM_takeDigits 154 = .ok (.iconst 2, 1) := by decide +kernel
theorem dM_takeDigits_155 : decode cM_takeDigits 155 = .ok (.iload 6, 2) := by decide +kernel
theorem dM_takeDigits_157 : decode cM_takeDigits 157 = .ok (.imul, 1) := by decide +kernel
theorem dM_takeDigits_158 : decode cM_takeDigits 158 = .ok (.iadd, 1) := by decide +kernel
theorem dM_takeDigits_159 : decode cM_takeDigits 159 = .ok (.iconst 1, 1) := by decide +kernel
theorem dM_takeDigits_160 : decode cM_takeDigits 160 = .ok (.iadd, 1) := by decide +kernel
theorem dM_takeDigits_161 : decode cM_takeDigits 161 = .ok (.iload 5, 2) := by decide +kernel
theorem dM_takeDigits_163 : decode cM_takeDigits 163 = .ok (.isub, 1) := by decide +kernel
theorem dM_takeDigits_164 : decode cM_takeDigits 164 = .ok (.iload 8, 2) := by decide +kernel
theorem dM_takeDigits_166 : decode cM_takeDigits 166 = .ok (.iastore, 1) := by decide +kernel
theorem dM_takeDigits_167 : decode cM_takeDigits 167 = .ok (.aload_n 0, 1) := by decide +kernel
theorem dM_takeDigits_168 : decode cM_takeDigits 168 = .ok (.dup, 1) := by decide +kernel
theorem dM_takeDigits_169 : decode cM_takeDigits 169 = .ok (.getfield 108, 3) := by decide +kernel
theorem dM_takeDigits_172 : decode cM_takeDigits 172 = .ok (.iconst 1, 1) := by decide +kernel
theorem dM_takeDigits_173 : decode cM_takeDigits 173 = .ok (.iadd, 1) := by decide +kernel
theorem dM_takeDigits_174 : decode cM_takeDigits 174 = .ok (.putfield 108, 3) := by decide +kernel
theorem dM_takeDigits_177 : decode cM_takeDigits 177 = .ok (.iinc 6 1, 3) := by decide +kernel
theorem dM_takeDigits_180 : decode cM_takeDigits 180 = .ok (.goto (-142), 3) := by decide +kernel
theorem dM_takeDigits_183 : decode cM_takeDigits 183 = .ok (.return_, 1) := by decide +kernel
theorem dM_takeField_0 : decode cM_takeField 0 = .ok (.aload_n 0, 1) := by decide +kernel
theorem dM_takeField_1 : decode cM_takeField 1 = .ok (.getfield 13, 3) := by decide +kernel
theorem dM_takeField_4 : decode cM_takeField 4 = .ok (.iload_n 1, 1) := by decide +kernel
theorem dM_takeField_5 : decode cM_takeField 5 = .ok (.iaload, 1) := by decide +kernel
theorem dM_takeField_6 : decode cM_takeField 6 = .ok (.istore_n 2, 1) := by decide +kernel
theorem dM_takeField_7 : decode cM_takeField 7 = .ok (.aload_n 0, 1) := by decide +kernel
theorem dM_takeField_8 : decode cM_takeField 8 = .ok (.getfield 16, 3) := by decide +kernel
theorem dM_takeField_11 : decode cM_takeField 11 = .ok (.iload_n 1, 1) := by decide +kernel
theorem dM_takeField_12 : decode cM_takeField 12 = .ok (.iaload, 1) := by decide +kernel
theorem dM_takeField_13 : decode cM_takeField 13 = .ok (.iconst 2, 1) := by decide +kernel
theorem dM_takeField_14 : decode cM_takeField 14 = .ok (.irem, 1) := by decide +kernel
theorem dM_takeField_15 : decode cM_takeField 15 = .ok (.iconst 1, 1) := by decide +kernel
theorem dM_takeField_16 : decode cM_takeField 16 = .ok (.if_icmp .ne 117, 3) := by decide +kernel
theorem dM_takeField_19 : decode cM_takeField 19 = .ok (.aload_n 0, 1) := by decide +kernel
theorem dM_takeField_20 : decode cM_takeField 20 = .ok (.getfield 108, 3) := by decide +kernel
theorem dM_takeField_23 : decode cM_takeField 23 = .ok (.istore_n 3, 1) := by decide +kernel
theorem dM_takeField_24 : decode cM_takeField 24 = .ok (.aload_n 0, 1) := by decide +kernel
theorem dM_takeField_25 : decode cM_takeField 25 = .ok (.getfield 16, 3) := by decide +kernel
theorem dM_takeField_28 : decode cM_takeField 28 = .ok (.iload_n 1, 1) := by decide +kernel
theorem dM_takeField_29 : decode cM_takeField 29 = .ok (.iaload, 1) := by decide +kernel
theorem dM_takeField_30 : decode cM_takeField 30 = .ok (.iconst 1, 1) := by decide +kernel
theorem dM_takeField_31 : decode cM_takeField 31 = .ok (.if_icmp .ne 7, 3) := by decide +kernel
theorem dM_takeField_34 : decode cM_takeField 34 = .ok (.iconst 2, 1) := by decide +kernel
theorem dM_takeField_35 : decode cM_takeField 35 = .ok (.goto 4, 3) := by decide +kernel
theorem dM_takeField_38 : decode cM_takeField 38 = .ok (.iconst 3, 1) := by decide +kernel
theorem dM_takeField_39 : decode cM_takeField 39 = .ok (.istore 4, 2) := by decide +kernel
theorem dM_takeField_41 : decode cM_takeField 41 = .ok (.aload_n 0, 1) := by decide +kernel
theorem dM_takeField_42 : decode cM_takeField 42 = .ok (.iload 4, 2) := by decide +kernel
theorem dM_takeField_44 : decode cM_takeField 44 = .ok (.aload_n 0, 1) := by decide +kernel
theorem dM_takeField_45 : decode cM_takeField 45 = .ok (.getfield 38, 3) := by decide +kernel
theorem dM_takeField_48 : decode cM_takeField 48 = .ok (.iconst 0, 1) := by decide +kernel
theorem dM_takeField_49 : decode cM_takeField 49 = .ok (.invokevirtual 115, 3) := by decide +kernel
theorem dM_takeField_52 : decode cM_takeField 52 = .ok (.aload_n 0, 1) := by decide +kernel
theorem dM_takeField_53 : decode cM_takeField 53 = .ok (.getfield 102, 3) := by decide +kernel
theorem dM_takeField_56 : decode cM_takeField 56 = .ok (.ifCond .le 4, 3) := by decide +kernel
theorem dM_takeField_59 : decode cM_takeField 59 = .ok (.return_, 1) := by decide +kernel
theorem dM_takeField_60 : decode cM_takeField 60 = .ok (.iload 4, 2) := by decide +kernel
theorem dM_takeField_62 : decode cM_takeField 62 = .ok (.iconst 2, 1) := by decide +kernel
theorem dM_takeField_63 : decode cM_takeField 63 = .ok (.if_icmp .ne 22, 3) := by decide +kernel
theorem dM_takeField_66 : decode cM_takeField 66 = .ok (.bipush 10, 2) := by decide +kernel
theorem dM_takeField_68 : decode cM_takeField 68 = .ok (.aload_n 0, 1) := by decide +kernel
theorem dM_takeField_69 : decode cM_takeField 69 = .ok (.getfield 38, 3) := by decide +kernel
theorem dM_takeField_72 : decode cM_takeField 72 = .ok (.iconst 0, 1) := by decide +kernel
theorem dM_takeField_73 : decode cM_takeField 73 = .ok (.iaload, 1) := by decide +kernel
theorem dM_takeField_74 : decode cM_takeField 74 = .ok (.imul, 1) := by decide +kernel
theorem dM_takeField_75 : decode cM_takeField 75 = .ok (.aload_n 0, 1) := by decide +kernel
theorem dM_takeField_76 : decode cM_takeField 76 = .ok (.getfield 38, 3) := by decide +kernel
theorem dM_takeField_79 : decode cM_takeField 79 = .ok (.iconst 1, 1) := by decide +kernel
theorem dM_takeField_80 : decode cM_takeField 80 = .ok (.iaload, 1) := by decide +kernel
theorem dM_takeField_81 : decode cM_takeField 81 = .ok (.iadd, 1) := by decide +kernel
theorem dM_takeField_82 : decode cM_takeField 82 = .ok (.goto 29, 3) := by decide +kernel
theorem dM_takeField_85 : decode cM_takeField 85 = .ok (.bipush 100, 2) := by decide +kernel
theorem dM_takeField_87 : decode cM_takeField 87 = .ok (.aload_n 0, 1) := by decide +kernel
theorem dM_takeField_88 : decode cM_takeField 88 = .ok (.getfield 38, 3) := by decide +kernel
theorem dM_takeField_91 : decode cM_takeField 91 = .ok (.iconst 0, 1) := by decide +kernel
theorem dM_takeField_92 : decode cM_takeField 92 = .ok (.iaload, 1) := by decide +kernel
theorem dM_takeField_93 : decode cM_takeField 93 = .ok (.imul, 1) := by decide +kernel
theorem dM_takeField_94 : decode cM_takeField 94 = .ok (.bipush 10, 2) := by decide +kernel
theorem dM_takeField_96 : decode cM_takeField 96 = .ok (.aload_n 0, 1) := by decide +kernel
theorem dM_takeField_97 : decode cM_takeField 97 = .ok (.getfield 38, 3) := by decide +kernel
theorem dM_takeField_100 : decode cM_takeField 100 = .ok (.iconst 1, 1) := by decide +kernel
theorem dM_takeField_101 : decode cM_takeField 101 = .ok (.iaload, 1) := by decide +kernel
theorem dM_takeField_102 : decode cM_takeField 102 = .ok (.imul, 1) := by decide +kernel
theorem dM_takeField_103 : decode cM_takeField 103 = .ok (.iadd, 1) := by decide +kernel
theorem dM_takeField_104 : decode cM_takeField 104 = .ok (.aload_n 0, 1) := by decide +kernel
theorem dM_takeField_105 : decode cM_takeField 105 = .ok (.getfield 38, 3) := by decide +kernel
theorem dM_takeField_108 : decode cM_takeField 108 = .ok (.iconst 2, 1) := by decide +kernel
theorem dM_takeField_109 : decode cM_takeField 109 = .ok (.iaload, 1) := by decide +kernel
theorem dM_takeField_110 : decode cM_takeField 110 = .ok (.iadd, 1) := by decide +kernel
theorem dM_takeField_111 : decode cM_takeField 111 = .ok (.istore_n 2, 1) := by decide +kernel
theorem dM_takeField_112 : decode cM_takeField 112 = .ok (.iload_n 2, 1) := by decide +kernel
theorem dM_takeField_113 : decode cM_takeField 113 = .ok (.ifCond .eq 13, 3) := by decide +kernel
theorem dM_takeField_116 : decode cM_takeField 116 = .ok (.iload_n 2, 1) := by decide +kernel
theorem dM_takeField_117 : decode cM_takeField 117 = .ok (.aload_n 0, 1) := by decide +kernel
theorem dM_takeField_118 : decode cM_takeField 118 = .ok (.getfield 13, 3) := by decide +kernel
theorem dM_takeField_121 : decode cM_takeField 121 = .ok (.iload_n 1, 1) := by decide +kernel
theorem dM_takeField_122 : decode cM_takeField 122 = .ok (.iaload, 1) := by decide +kernel
theorem dM_takeField_123 : decode cM_takeField 123 = .ok (.if_icmp .le 10, 3) := by decide +kernel
theorem dM_takeField_126 : decode cM_takeField 126 = .ok (.aload_n 0, 1) := by decide +kernel
theorem dM_takeField_127 : decode cM_takeField 127 = .ok (.iconst 5, 1) := by decide +kernel
theorem dM_takeField_128 : decode cM_takeField 128 = .ok (.iload_n 3, 1) := by decide +kernel
theorem dM_takeField_129 : decode cM_takeField 129 = .ok (.invokevirtual 111, 3) := by decide +kernel
theorem dM_takeField_132 : decode cM_takeField 132 = .ok (.return_, 1) := by decide +kernel
theorem dM_takeField_133 : decode cM_takeField 133 = .ok (.aload_n 0, 1) := by decide +kernel
theorem dM_takeField_134 : decode cM_takeField 134 = .ok (.getfield 32, 3) := by decide +kernel
theorem dM_takeField_137 : decode cM_takeField 137 = .ok (.iload_n 1, 1) := by decide +kernel
theorem dM_takeField_138 : decode cM_takeField 138 = .ok (.iload_n 2, 1) := by decide +kernel
theorem dM_takeField_139 : decode cM_takeField 139 = .ok (.iastore, 1) := by decide +kernel
theorem dM_takeField_140 : decode cM_takeField 140 = .ok (.aload_n 0, 1) := by decide +kernel
theorem dM_takeField_141 : decode cM_takeField 141 = .ok (.getfield 16, 3) := by decide +kernel
theorem dM_takeField_144 : decode cM_takeField 144 = .ok (.iload_n 1, 1) := by decide +kernel
theorem dM_takeField_145 : decode cM_takeField 145 = .ok (.iaload, 1) := by decide +kernel
theorem dM_takeField_146 : decode cM_takeField 146 = .ok (.iconst 2, 1) := by decide +kernel
theorem dM_takeField_147 : decode cM_takeField 147 = .ok (.if_icmp .ge 19, 3) := by decide +kernel
theorem dM_takeField_150 : decode cM_takeField 150 = .ok (.aload_n 0, 1) := by decide +kernel
theorem dM_takeField_151 : decode cM_takeField 151 = .ok (.iload_n 2, 1) := by decide +kernel
theorem dM_takeField_152 : decode cM_takeField 152 = .ok (.aload_n 0, 1) := by decide +kernel
theorem dM_takeField_153 : decode cM_takeField 153 = .ok (.getfield 29, 3) := by decide +kernel
theorem dM_takeField_156 : decode cM_takeField 156 = .ok (.bipush 42, 2) := by decide +kernel
theorem dM_takeField_158 : decode cM_takeField 158 = .ok (.iload_n 1, 1) := by decide +kernel
theorem dM_takeField_159 : decode cM_takeField 159 = .ok (.imul, 1) := by decide +kernel
theorem dM_takeField_160 : decode cM_takeField 160 = .ok (.invokevirtual 115, 3) := by decide +kernel
theorem dM_takeField_163 : decode cM_takeField 163 = .ok (.goto 16, 3) := by decide +kernel
theorem dM_takeField_166 : decode cM_takeField 166 = .ok (.aload_n 0, 1) := by decide +kernel
theorem dM_takeField_167 : decode cM_takeField 167 = .ok (.iload_n 2, 1) := by decide +kernel
theorem dM_takeField_168 : decode cM_takeField 168 = .ok (.aload_n 0, 1) := by decide +kernel
theorem dM_takeField_169 : decode cM_takeField 169 = .ok (.getfield 29, 3) := by decide +kernel
theorem dM_takeField_172 : decode cM_takeField 172 = .ok (.bipush 42, 2) := by decide +kernel
theorem dM_takeField_174 : decode cM_takeField 174 = .ok (.iload_n 1, 1) := by decide +kernel
theorem dM_takeField_175 : decode cM_takeField 175 = .ok (.imul, 1) := by decide +kernel
theorem dM_takeField_176 : decode cM_takeField 176 = .ok (.invokevirtual 119, 3) := by decide +kernel
theorem dM_takeField_179 : decode cM_takeField 179 = .ok (.return_, 1) := by decide +kernel
theorem dM_takeLetters_0 : decode cM_takeLetters 0 = .ok (.aload_n 0, 1) := by decide +kernel
theorem dM_takeLetters_1 : decode cM_takeLetters 1 = .ok (.getfield 108, 3) := by decide +kernel
theorem dM_takeLetters_4 : decode cM_takeLetters 4 = .ok (.iload_n 1, 1) := by decide +kernel
theorem dM_takeLetters_5 : decode cM_takeLetters 5 = .ok (.iadd, 1) := by decide +kernel
theorem dM_takeLetters_6 : decode cM_takeLetters 6 = .ok (.aload_n 0, 1) := by decide +kernel
theorem dM_takeLetters_7 : decode cM_takeLetters 7 = .ok (.getfield 99, 3) := by decide +kernel
theorem dM_takeLetters_10 : decode cM_takeLetters 10 = .ok (.if_icmp .le 12, 3) := by decide +kernel
theorem dM_takeLetters_13 : decode cM_takeLetters 13 = .ok (.aload_n 0, 1) := by decide +kernel
theorem dM_takeLetters_14 : decode cM_takeLetters 14 = .ok (.iconst 1, 1) := by decide +kernel
theorem dM_takeLetters_15 : decode cM_takeLetters 15 = .ok (.aload_n 0, 1) := by decide +kernel
theorem dM_takeLetters_16 : decode cM_takeLetters 16 = .ok (.getfield 99, 3) := by decide +kernel
theorem dM_takeLetters_19 : decode cM_takeLetters 19 = .ok (.invokevirtual 111, 3) := by decide +kernel
theorem dM_takeLetters_22 : decode cM_takeLetters 22 = .ok (.iconst 0, 1) := by decide +kernel
theorem dM_takeLetters_23 : decode cM_takeLetters 23 = .ok (.istore 4, 2) := by decide +kernel
theorem dM_takeLetters_25 : decode cM_takeLetters 25 = .ok (.iload 4, 2) := by decide +kernel
theorem dM_takeLetters_27 : decode cM_takeLetters 27 = .ok (.iload_n 1, 1) := by decide +kernel
theorem dM_takeLetters_28 : decode cM_takeLetters 28 = .ok (.if_icmp .ge 114, 3) := by decide +kernel
theorem dM_takeLetters_31 : decode cM_takeLetters 31 = .ok (.aload_n 0, 1) := by decide +kernel
theorem dM_takeLetters_32 : decode cM_takeLetters 32 = .ok (.getfield 102, 3) := by decide +kernel
theorem dM_takeLetters_35 : decode cM_takeLetters 35 = .ok (.ifCond .ne 107, 3) := by decide +kernel
theorem dM_takeLetters_38 : decode cM_takeLetters 38 = .ok (.aload_n 0, 1) := by decide +kernel
theorem dM_takeLetters_39 : decode cM_takeLetters 39 = .ok (.getfield 35, 3) := by decide +kernel
theorem dM_takeLetters_42 : decode cM_takeLetters 42 = .ok (.aload_n 0, 1) := by decide +kernel
theorem dM_takeLetters_43 : decode cM_takeLetters 43 = .ok (.getfield 108, 3) := by decide +kernel
theorem dM_takeLetters_46 : decode cM_takeLetters 46 = .ok (.iaload, 1) := by decide +kernel
theorem dM_takeLetters_47 : decode cM_takeLetters 47 = .ok (.istore 5, 2) := by decide +kernel
theorem dM_takeLetters_49 : decode cM_takeLetters 49 = .ok (.iload 5, 2) := by decide +kernel
theorem dM_takeLetters_51 : decode cM_takeLetters 51 = .ok (.bipush 47, 2) := by decide +kernel
theorem dM_takeLetters_53 : decode cM_takeLetters 53 = .ok (.if_icmp .le 14, 3) := by decide +kernel
theorem dM_takeLetters_56 : decode cM_takeLetters 56 = .ok (.iload 5, 2) := by decide +kernel
theorem dM_takeLetters_58 : decode cM_takeLetters 58 = .ok (.bipush 58, 2) := by decide +kernel
theorem dM_takeLetters_60 : decode cM_takeLetters 60 = .ok (.if_icmp .ge 7, 3) := by decide +kernel
theorem dM_takeLetters_63 : decode cM_takeLetters 63 = .ok (.iconst 1, 1) := by decide +kernel
theorem dM_takeLetters_64 : decode cM_takeLetters 64 = .ok (.goto 4, 3) := by decide +kernel
theorem dM_takeLetters_67 : decode cM_takeLetters 67 = .ok (.iconst 0, 1) := by decide +kernel
theorem dM_takeLetters_68 : decode cM_takeLetters 68 = .ok (.istore 6, 2) := by decide +kernel
theorem dM_takeLetters_70 : decode cM_takeLetters 70 = .ok (.iload 6, 2) := by decide +kernel
theorem dM_takeLetters_72 : decode cM_takeLetters 72 = .ok (.ifCond .ne 17, 3) := by decide +kernel
theorem dM_takeLetters_75 : decode cM_takeLetters 75 = .ok (.iload 5, 2) := by decide +kernel
theorem dM_takeLetters_77 : decode cM_takeLetters 77 = .ok (.bipush 64, 2) := by decide +kernel
theorem dM_takeLetters_79 : decode cM_takeLetters 79 = .ok (.if_icmp .le 47, 3) := by decide +kernel
theorem dM_takeLetters_82 : decode cM_takeLetters 82 = .ok (.iload 5, 2) := by decide +kernel
theorem dM_takeLetters_84 : decode cM_takeLetters 84 = .ok (.bipush 91, 2) := by decide +kernel
theorem dM_takeLetters_86 : decode cM_takeLetters 86 = .ok (.if_icmp .ge 40, 3) := by decide +kernel
theorem dM_takeLetters_89 : decode cM_takeLetters 89 = .ok (.aload_n 2, 1) := by decide +kernel
theorem dM_takeLetters_90 : decode cM_takeLetters 90 = .ok (.iload_n 3, 1) := by decide +kernel
theorem dM_takeLetters_91 : decode cM_takeLetters 91 = .ok (.iload 4, 2) := by decide +kernel
theorem dM_takeLetters_93 : decode cM_takeLetters 93 = .ok (.iadd, 1) := by decide +kernel
theorem dM_takeLetters_94 : decode cM_takeLetters 94 = .ok (.iload 6, 2) := by decide +kernel
theorem dM_takeLetters_96 : decode cM_takeLetters 96 = .ok (.ifCond .eq 11, 3) := by decide +kernel
theorem dM_takeLetters_99 : decode cM_takeLetters 99 = .ok (.iload 5, 2) := by decide +kernel
theorem dM_takeLetters_101 : decode cM_takeLetters 101 = .ok (.bipush 48, 2) := by decide +kernel
theorem dM_takeLetters_103 : decode cM_takeLetters 103 = .ok (.isub, 1) := by decide +kernel
theorem dM_takeLetters_104 : decode cM_takeLetters 104 = .ok (.goto 8, 3) := by decide +kernel
theorem dM_takeLetters_107 : decode cM_takeLetters 107 = .ok (.iload 5, 2) := by decide +kernel
theorem dM_takeLetters_109 : decode cM_takeLetters 109 = .ok (.bipush 55, 2) := by decide +kernel
theorem dM_takeLetters_111 : decode cM_takeLetters 111 = .ok (.isub, 1) := by decide +kernel
theorem dM_takeLetters_112 : decode cM_takeLetters 112 = .ok (.iastore, 1) := by decide +kernel
theorem dM_takeLetters_113 : decode cM_takeLetters 113 = .ok (.aload_n 0, 1) := by decide +kernel
theorem dM_takeLetters_114 : decode cM_takeLetters 114 = .ok (.dup, 1) := by decide +kernel
theorem dM_takeLetters_115 : decode cM_takeLetters 115 = .ok (.getfield 108, 3) := by decide +kernel
theorem dM_takeLetters_118 : decode cM_takeLetters 118 = .ok (.iconst 1, 1) := by decide +kernel
theorem dM_takeLetters_119 : decode cM_takeLetters 119 = .ok (.iadd, 1) := by decide +kernel
theorem dM_takeLetters_120 : decode cM_takeLetters 120 = .ok (.putfield 108, 3) := by decide +kernel
theorem dM_takeLetters_123 : decode cM_takeLetters 123 = .ok (.goto 13, 3) := by decide +kernel
theorem dM_takeLetters_126 : decode cM_takeLetters 126 = .ok (.aload_n 0, 1) := by decide +kernel
theorem dM_takeLetters_127 : decode cM_takeLetters 127 = .ok (.bipush 6, 2) := by decide +kernel
theorem dM_takeLetters_129 : decode cM_takeLetters 129 = .ok (.aload_n 0, 1) := by decide +kernel
theorem dM_takeLetters_130 : decode cM_takeLetters 130 = .ok (.getfield 108, 3) := by decide +kernel
theorem dM_takeLetters_133 : decode cM_takeLetters 133 = .ok (.invokevirtual 111, 3) := by decide +kernel
theorem dM_takeLetters_136 : decode cM_takeLetters 136 = .ok (.iinc 4 1, 3) := by decide +kernel
theorem dM_takeLetters_139 : decode cM_takeLetters 139 = .ok (.goto (-114), 3) := by decide +kernel
theorem dM_takeLetters_142 : decode cM_takeLetters 142 = .ok (.return_, 1) := by decide +kernel
theorem dM_takeMaps_0 : decode cM_takeMaps 0 = .ok (.aload_n 0, 1) := by decide +kernel
theorem dM_takeMaps_1 : decode cM_takeMaps 1 = .ok (.getfield 108, 3) := by decide +kernel
theorem dM_takeMaps_4 : decode cM_takeMaps 4 = .ok (.bipush 8, 2) := by decide +kernel
theorem dM_takeMaps_6 : decode cM_takeMaps 6 = .ok (.iadd, 1) := by decide +kernel
theorem dM_takeMaps_7 : decode cM_takeMaps 7 = .ok (.aload_n 0, 1) := by decide +kernel
theorem dM_takeMaps_8 : decode cM_takeMaps 8 = .ok (.getfield 99, 3) := by decide +kernel
theorem dM_takeMaps_11 : decode cM_takeMaps 11 = .ok (.if_icmp .le 13, 3) := by decide +kernel
theorem dM_takeMaps_14 : decode cM_takeMaps 14 = .ok (.aload_n 0, 1) := by decide +kernel
theorem dM_takeMaps_15 : decode cM_takeMaps 15 = .ok (.iconst 1, 1) := by decide +kernel
theorem dM_takeMaps_16 : decode cM_takeMaps 16 = .ok (.aload_n 0, 1) := by decide +kernel
theorem dM_takeMaps_17 : decode cM_takeMaps 17 = .ok (.getfield 99, 3) := by decide +kernel
theorem dM_takeMaps_20 : decode cM_takeMaps 20 = .ok (.invokevirtual 111, 3) := by decide +kernel
theorem dM_takeMaps_23 : decode cM_takeMaps 23 = .ok (.return_, 1) := by decide +kernel
theorem dM_takeMaps_24 : decode cM_takeMaps 24 = .ok (.aload_n 0, 1) := by decide +kernel
theorem dM_takeMaps_25 : decode cM_takeMaps 25 = .ok (.getfield 35, 3) := by decide +kernel
theorem dM_takeMaps_28 : decode cM_takeMaps 28 = .ok (.aload_n 0, 1) := by decide +kernel
theorem dM_takeMaps_29 : decode cM_takeMaps 29 = .ok (.getfield 108, 3) := by decide +kernel
theorem dM_takeMaps_32 : decode cM_takeMaps 32 = .ok (.iaload, 1) := by decide +kernel
theorem dM_takeMaps_33 : decode cM_takeMaps 33 = .ok (.bipush 127, 2) := by decide +kernel
theorem dM_takeMaps_35 : decode cM_takeMaps 35 = .ok (.if_icmp .le 8, 3) := by decide +kernel
theorem dM_takeMaps_38 : decode cM_takeMaps 38 = .ok (.bipush 16, 2) := by decide +kernel
theorem dM_takeMaps_40 : decode cM_takeMaps 40 = .ok (.goto 5, 3) := by decide +kernel
theorem dM_takeMaps_43 : decode cM_takeMaps 43 = .ok (.bipush 8, 2) := by decide +kernel
theorem dM_takeMaps_45 : decode cM_takeMaps 45 = .ok (.istore_n 1, 1) := by decide +kernel
theorem dM_takeMaps_46 : decode cM_takeMaps 46 = .ok (.aload_n 0, 1) := by decide +kernel
theorem dM_takeMaps_47 : decode cM_takeMaps 47 = .ok (.getfield 108, 3) := by decide +kernel
theorem dM_takeMaps_50 : decode cM_takeMaps 50 = .ok (.iload_n 1, 1) := by decide +kernel
theorem dM_takeMaps_51 : decode cM_takeMaps 51 = .ok (.iadd, 1) := by decide +kernel
theorem dM_takeMaps_52 : decode cM_takeMaps 52 = .ok (.aload_n 0, 1) := by decide +kernel
theorem dM_takeMaps_53 : decode cM_takeMaps 53 = .ok (.getfield 99, 3) := by decide +kernel
theorem dM_takeMaps_56 : decode cM_takeMaps 56 = .ok (.if_icmp .le 13, 3) := by decide +kernel
theorem dM_takeMaps_59 : decode cM_takeMaps 59 = .ok (.aload_n 0, 1) := by decide +kernel
theorem dM_takeMaps_60 : decode cM_takeMaps 60 = .ok (.iconst 1, 1) := by decide +kernel
theorem dM_takeMaps_61 : decode cM_takeMaps 61 = .ok (.aload_n 0, 1) := by decide +kernel
theorem dM_takeMaps_62 : decode cM_takeMaps 62 = .ok (.getfield 99, 3) := by decide +kernel
theorem dM_takeMaps_65 : decode cM_takeMaps 65 = .ok (.invokevirtual 111, 3) := by decide +kernel
theorem dM_takeMaps_68 : decode cM_takeMaps 68 = .ok (.return_, 1) := by decide +kernel
theorem dM_takeMaps_69 : decode cM_takeMaps 69 = .ok (.iconst 0, 1) := by decide +kernel
theorem dM_takeMaps_70 : decode cM_takeMaps 70 = .ok (.istore_n 2, 1) := by decide +kernel
theorem dM_takeMaps_71 : decode cM_takeMaps 71 = .ok (.iconst 1, 1) := by decide +kernel
theorem dM_takeMaps_72 : decode cM_takeMaps 72 = .ok (.istore_n 3, 1) := by decide +kernel
theorem dM_takeMaps_73 : decode cM_takeMaps 73 = .ok (.iload_n 3, 1) := by decide +kernel
theorem dM_takeMaps_74 : decode cM_takeMaps 74 = .ok (.bipush 8, 2) := by decide +kernel
theorem dM_takeMaps_76 : decode cM_takeMaps 76 = .ok (.iload_n 1, 1) := by decide +kernel
theorem dM_takeMaps_77 : decode cM_takeMaps 77 = .ok (.imul, 1) := by decide +kernel
theorem dM_takeMaps_78 : decode cM_takeMaps 78 = .ok (.if_icmp .ge 90, 3) := by decide +kernel
theorem dM_takeMaps_81 : decode cM_takeMaps 81 = .ok (.aload_n 0, 1) := by decide +kernel
theorem dM_takeMaps_82 : decode cM_takeMaps 82 = .ok (.getfield 35, 3) := by decide +kernel
theorem dM_takeMaps_85 : decode cM_takeMaps 85 = .ok (.aload_n 0, 1) := by decide +kernel
theorem dM_takeMaps_86 : decode cM_takeMaps 86 = .ok (.getfield 108, 3) := by decide +kernel
theorem dM_takeMaps_89 : decode cM_takeMaps 89 = .ok (.iload_n 3, 1) := by decide +kernel
theorem dM_takeMaps_90 : decode cM_takeMaps 90 = .ok (.bipush 8, 2) := by decide +kernel
theorem dM_takeMaps_92 : decode cM_takeMaps 92 = .ok (.idiv, 1) := by decide +kernel
theorem dM_takeMaps_93 : decode cM_takeMaps 93 = .ok (.iadd, 1) := by decide +kernel
theorem dM_takeMaps_94 : decode cM_takeMaps 94 = .ok (.iaload, 1) := by decide +kernel
theorem dM_takeMaps_95 : decode cM_takeMaps 95 = .ok (.bipush 7, 2) := by decide +kernel
theorem dM_takeMaps_97 : decode cM_takeMaps 97 = .ok (.iload_n 3, 1) := by decide +kernel
theorem dM_takeMaps_98 : decode cM_takeMaps 98 = .ok (.bipush 8, 2) := by decide +kernel
theorem dM_takeMaps_100 : decode cM_takeMaps 100 = .ok (.irem, 1) := by decide +kernel
theorem dM_takeMaps_101 : decode cM_takeMaps 101 = .ok (.isub, 1) := by decide +kernel
theorem dM_takeMaps_102 : decode cM_takeMaps 102 = .ok (.ishr, 1) := by decide +kernel
theorem dM_takeMaps_103 : decode cM_takeMaps 103 = .ok (.iconst 1, 1) := by decide +kernel
theorem dM_takeMaps_104 : decode cM_takeMaps 104 = .ok (.iand, 1) := by decide +kernel
theorem dM_takeMaps_105 : decode cM_takeMaps 105 = .ok (.iconst 1, 1) := by decide +kernel
theorem dM_takeMaps_106 : decode cM_takeMaps 106 = .ok (.if_icmp .ne 56, 3) := by decide +kernel
theorem dM_takeMaps_109 : decode cM_takeMaps 109 = .ok (.aload_n 0, 1) := by decide +kernel
theorem dM_takeMaps_110 : decode cM_takeMaps 110 = .ok (.iload_n 3, 1) := by decide +kernel
theorem dM_takeMaps_111 : decode cM_takeMaps 111 = .ok (.iconst 1, 1) := by decide +kernel
theorem dM_takeMaps_112 : decode cM_takeMaps 112 = .ok (.iadd, 1) := by decide +kernel
theorem dM_takeMaps_113 : decode cM_takeMaps 113 = .ok (.invokevirtual 66, 3) := by decide +kernel
theorem dM_takeMaps_116 : decode cM_takeMaps 116 = .ok (.istore 4, 2) := by decide +kernel
theorem dM_takeMaps_118 : decode cM_takeMaps 118 = .ok (.iload 4, 2) := by decide +kernel
theorem dM_takeMaps_120 : decode cM_takeMaps 120 = .ok (.ifCond .ge 20, 3) := by decide +kernel
theorem dM_takeMaps_123 : decode cM_takeMaps 123 = .ok (.aload_n 0, 1) := by decide +kernel
theorem dM_takeMaps_124 : decode cM_takeMaps 124 = .ok (.iconst 4, 1) := by decide +kernel
theorem dM_takeMaps_125 : decode cM_takeMaps 125 = .ok (.aload_n 0, 1) := by decide +kernel
theorem dM_takeMaps_126 : decode cM_takeMaps 126 = .ok (.getfield 108, 3) := by decide +kernel
theorem dM_takeMaps_129 : decode cM_takeMaps 129 = .ok (.iload_n 3, 1) := by decide +kernel
theorem dM_takeMaps_130 : decode cM_takeMaps 130 = .ok (.bipush 8, 2) := by decide +kernel
theorem dM_takeMaps_132 : decode cM_takeMaps 132 = .ok (.idiv, 1) := by decide +kernel
theorem dM_takeMaps_133 : decode cM_takeMaps 133 = .ok (.iadd, 1) := by decide +kernel
theorem dM_takeMaps_134 : decode cM_takeMaps 134 = .ok (.invokevirtual 111, 3) := by decide +kernel
theorem dM_takeMaps_137 : decode cM_takeMaps 137 = .ok (.goto 25, 3) := by decide +kernel
theorem dM_takeMaps_140 : decode cM_takeMaps 140 = .ok (.aload_n 0, 1) := by decide +kernel
theorem dM_takeMaps_141 : decode cM_takeMaps 141 = .ok (.getfield 32, 3) := by decide +kernel
theorem dM_takeMaps_144 : decode cM_takeMaps 144 = .ok (.iload 4, 2) := by decide +kernel
theorem dM_takeMaps_146 : decode cM_takeMaps 146 = .ok (.iconst 0, 1) := by decide +kernel
theorem dM_takeMaps_147 : decode cM_takeMaps 147 = .ok (.iastore, 1) := by decide +kernel
theorem dM_takeMaps_148 : decode cM_takeMaps 148 = .ok (.iload_n 2, 1) := by decide +kernel
theorem dM_takeMaps_149 : decode cM_takeMaps 149 = .ok (.iload_n 3, 1) := by decide +kernel
theorem dM_takeMaps_150 : decode cM_takeMaps 150 = .ok (.bipush 64, 2) := by decide +kernel
theorem dM_takeMaps_152 : decode cM_takeMaps 152 = .ok (.if_icmp .lt 7, 3) := by decide +kernel
theorem dM_takeMaps_155 : decode cM_takeMaps 155 = .ok (.iconst 1, 1) := by decide +kernel
theorem dM_takeMaps_156 : decode cM_takeMaps 156 = .ok (.goto 4, 3) := by decide +kernel
theorem dM_takeMaps_159 : decode cM_takeMaps 159 = .ok (.iconst 0, 1) := by decide +kernel
theorem dM_takeMaps_160 : decode cM_takeMaps 160 = .ok (.iadd, 1) := by decide +kernel
theorem dM_takeMaps_161 : decode cM_takeMaps 161 = .ok (.istore_n 2, 1) := by decide +kernel
theorem dM_takeMaps_162 : decode cM_takeMaps 162 = .ok (.iinc 3 1, 3) := by decide +kernel
theorem dM_takeMaps_165 : decode cM_takeMaps 165 = .ok (.goto (-92), 3) := by decide +kernel
theorem dM_takeMaps_168 : decode cM_takeMaps 168 = .ok (.iload_n 1, 1) := by decide +kernel
theorem dM_takeMaps_169 : decode cM_takeMaps 169 = .ok (.bipush 16, 2) := by decide +kernel
theorem dM_takeMaps_171 : decode cM_takeMaps 171 = .ok (.if_icmp .ne 19, 3) := by decide +kernel
theorem dM_takeMaps_174 : decode cM_takeMaps 174 = .ok (.iload_n 2, 1) := by decide +kernel
theorem dM_takeMaps_175 : decode cM_takeMaps 175 = .ok (.ifCond .ne 15, 3) := by decide +kernel
theorem dM_takeMaps_178 : decode cM_takeMaps 178 = .ok (.aload_n 0, 1) := by decide +kernel
theorem dM_takeMaps_179 : decode cM_takeMaps 179 = .ok (.iconst 4, 1) := by decide +kernel
theorem dM_takeMaps_180 : decode cM_takeMaps 180 = .ok (.aload_n 0, 1) := by decide +kernel
theorem dM_takeMaps_181 : decode cM_takeMaps 181 = .ok (.getfield 108, 3) := by decide +kernel
theorem dM_takeMaps_184 : decode cM_takeMaps 184 = .ok (.bipush 8, 2) := by decide +kernel
theorem dM_takeMaps_186 : decode cM_takeMaps 186 = .ok (.iadd, 1) := by decide +kernel
theorem dM_takeMaps_187 : decode cM_takeMaps 187 = .ok (.invokevirtual 111, 3) := by decide +kernel
theorem dM_takeMaps_190 : decode cM_takeMaps 190 = .ok (.aload_n 0, 1) := by decide +kernel
theorem dM_takeMaps_191 : decode cM_takeMaps 191 = .ok (.dup, 1) := by decide +kernel
theorem dM_takeMaps_192 : decode cM_takeMaps 192 = .ok (.getfield 108, 3) := by decide +kernel
theorem dM_takeMaps_195 : decode cM_takeMaps 195 = .ok (.iload_n 1, 1) := by decide +kernel
theorem dM_takeMaps_196 : decode cM_takeMaps 196 = .ok (.iadd, 1) := by decide +kernel
theorem dM_takeMaps_197 : decode cM_takeMaps 197 = .ok (.putfield 108, 3) := by decide +kernel
theorem dM_takeMaps_200 : decode cM_takeMaps 200 = .ok (.return_, 1) := by decide +kernel
theorem dM_thrown_0 : decode cM_thrown 0 = .ok (.aload_n 0, 1) := by decide +kernel
theorem dM_thrown_1 : decode cM_thrown 1 = .ok (.getfield 45, 3) := by decide +kernel
theorem dM_thrown_4 : decode cM_thrown 4 = .ok (.ireturn, 1) := by decide +kernel
theorem dM_trim_0 : decode cM_trim 0 = .ok (.aload_n 0, 1) := by decide +kernel
theorem dM_trim_1 : decode cM_trim 1 = .ok (.iload_n 1, 1) := by decide +kernel
theorem dM_trim_2 : decode cM_trim 2 = .ok (.ifCond .lt 15, 3) := by decide +kernel
theorem dM_trim_5 : decode cM_trim 5 = .ok (.iload_n 1, 1) := by decide +kernel
theorem dM_trim_6 : decode cM_trim 6 = .ok (.aload_n 0, 1) := by decide +kernel
theorem dM_trim_7 : decode cM_trim 7 = .ok (.getfield 99, 3) := by decide +kernel
theorem dM_trim_10 : decode cM_trim 10 = .ok (.if_icmp .gt 7, 3) := by decide +kernel
theorem dM_trim_13 : decode cM_trim 13 = .ok (.iconst 1, 1) := by decide +kernel
theorem dM_trim_14 : decode cM_trim 14 = .ok (.goto 4, 3) := by decide +kernel
theorem dM_trim_17 : decode cM_trim 17 = .ok (.iconst 0, 1) := by decide +kernel
theorem dM_trim_18 : decode cM_trim 18 = .ok (.invokevirtual 50, 3) := by decide +kernel
theorem dM_trim_21 : decode cM_trim 21 = .ok (.ifCond .ne 5, 3) := by decide +kernel
theorem dM_trim_24 : decode cM_trim 24 = .ok (.iconst 0, 1) := by decide +kernel
theorem dM_trim_25 : decode cM_trim 25 = .ok (.ireturn, 1) := by decide +kernel
theorem dM_trim_26 : decode cM_trim 26 = .ok (.aload_n 0, 1) := by decide +kernel
theorem dM_trim_27 : decode cM_trim 27 = .ok (.dup, 1) := by decide +kernel
theorem dM_trim_28 : decode cM_trim 28 = .ok (.getfield 99, 3) := by decide +kernel
theorem dM_trim_31 : decode cM_trim 31 = .ok (.iload_n 1, 1) := by decide +kernel
theorem dM_trim_32 : decode cM_trim 32 = .ok (.isub, 1) := by decide +kernel
theorem dM_trim_33 : decode cM_trim 33 = .ok (.putfield 99, 3) := by decide +kernel
theorem dM_trim_36 : decode cM_trim 36 = .ok (.aload_n 0, 1) := by decide +kernel
theorem dM_trim_37 : decode cM_trim 37 = .ok (.getfield 99, 3) := by decide +kernel
theorem dM_trim_40 : decode cM_trim 40 = .ok (.ireturn, 1) := by decide +kernel
theorem dM_type_0 : decode cM_type 0 = .ok (.aload_n 0, 1) := by decide +kernel
theorem dM_type_1 : decode cM_type 1 = .ok (.iconst 0, 1) := by decide +kernel
theorem dM_type_2 : decode cM_type 2 = .ok (.putfield 45, 3) := by decide +kernel
theorem dM_type_5 : decode cM_type 5 = .ok (.aload_n 0, 1) := by decide +kernel
theorem dM_type_6 : decode cM_type 6 = .ok (.getfield 19, 3) := by decide +kernel
theorem dM_type_9 : decode cM_type 9 = .ok (.ireturn, 1) := by decide +kernel
theorem dM_width_0 : decode cM_width 0 = .ok (.iconst 1, 1) := by decide +kernel
theorem dM_width_1 : decode cM_width 1 = .ok (.istore_n 2, 1) := by decide +kernel
theorem dM_width_2 : decode cM_width 2 = .ok (.lload_n 0, 1) := by decide +kernel
theorem dM_width_3 : decode cM_width 3 = .ok (.ldc2_w 48, 3) := by decide +kernel
theorem dM_width_6 : decode cM_width 6 = .ok (.ldiv, 1) := by decide +kernel
theorem dM_width_7 : decode cM_width 7 = .ok (.lstore_n 3, 1) := by decide +kernel
theorem dM_width_8 : decode cM_width 8 = .ok (.lload_n 3, 1) := by decide +kernel
theorem dM_width_9 : decode cM_width 9 = .ok (.lconst 0, 1) := by decide +kernel
theorem dM_width_10 : decode cM_width 10 = .ok (.lcmp, 1) := by decide +kernel
theorem dM_width_11 : decode cM_width 11 = .ok (.ifCond .le 15, 3) := by decide +kernel
theorem dM_width_14 : decode cM_width 14 = .ok (.lload_n 3, 1) := by decide +kernel
theorem dM_width_15 : decode cM_width 15 = .ok (.ldc2_w 48, 3) := by decide +kernel
theorem dM_width_18 : decode cM_width 18 = .ok (.ldiv, 1) := by decide +kernel
theorem dM_width_19 : decode cM_width 19 = .ok (.lstore_n 3, 1) := by decide +kernel
theorem dM_width_20 : decode cM_width 20 = .ok (.iinc 2 1, 3) := by decide +kernel
theorem dM_width_23 : decode cM_width 23 = .ok (.goto (-15), 3) := by decide +kernel
theorem dM_width_26 : decode cM_width 26 = .ok (.iload_n 2, 1) := by decide +kernel
theorem dM_width_27 : decode cM_width 27 = .ok (.ireturn, 1) := by decide +kernel
theorem dM_write_0 : decode cM_write 0 = .ok (.aload_n 0, 1) := by decide +kernel
theorem dM_write_1 : decode cM_write 1 = .ok (.iconst 0, 1) := by decide +kernel
theorem dM_write_2 : decode cM_write 2 = .ok (.putfield 84, 3) := by decide +kernel
theorem dM_write_5 : decode cM_write 5 = .ok (.aload_n 0, 1) := by decide +kernel
theorem dM_write_6 : decode cM_write 6 = .ok (.getfield 38, 3) := by decide +kernel
theorem dM_write_9 : decode cM_write 9 = .ok (.iconst 0, 1) := by decide +kernel
theorem dM_write_10 : decode cM_write 10 = .ok (.iload_n 1, 1) := by decide +kernel
theorem dM_write_11 : decode cM_write 11 = .ok (.i2l, 1) := by decide +kernel
theorem dM_write_12 : decode cM_write 12 = .ok (.iconst 4, 1) := by decide +kernel
theorem dM_write_13 : decode cM_write 13 = .ok (.invokestatic 62, 3) := by decide +kernel
theorem dM_write_16 : decode cM_write 16 = .ok (.aload_n 0, 1) := by decide +kernel
theorem dM_write_17 : decode cM_write 17 = .ok (.aload 4, 2) := by decide +kernel
theorem dM_write_19 : decode cM_write 19 = .ok (.aload_n 0, 1) := by decide +kernel
theorem dM_write_20 : decode cM_write 20 = .ok (.getfield 38, 3) := by decide +kernel
theorem dM_write_23 : decode cM_write 23 = .ok (.iconst 0, 1) := by decide +kernel
theorem dM_write_24 : decode cM_write 24 = .ok (.iconst 4, 1) := by decide +kernel
theorem dM_write_25 : decode cM_write 25 = .ok (.invokevirtual 87, 3) := by decide +kernel
theorem dM_write_28 : decode cM_write 28 = .ok (.iconst 0, 1) := by decide +kernel
theorem dM_write_29 : decode cM_write 29 = .ok (.istore 5, 2) := by decide +kernel
theorem dM_write_31 : decode cM_write 31 = .ok (.iconst 0, 1) := by decide +kernel
theorem dM_write_32 : decode cM_write 32 = .ok (.istore 6, 2) := by decide +kernel
theorem dM_write_34 : decode cM_write 34 = .ok (.iload 6, 2) := by decide +kernel
theorem dM_write_36 : decode cM_write 36 = .ok (.bipush 16, 2) := by decide +kernel
theorem dM_write_38 : decode cM_write 38 = .ok (.if_icmp .ge 40, 3) := by decide +kernel
theorem dM_write_41 : decode cM_write 41 = .ok (.iload 5, 2) := by decide +kernel
theorem dM_write_43 : decode cM_write 43 = .ok (.ifCond .ne 22, 3) := by decide +kernel
theorem dM_write_46 : decode cM_write 46 = .ok (.aload_n 3, 1) := by decide +kernel
theorem dM_write_47 : decode cM_write 47 = .ok (.iload 6, 2) := by decide +kernel
theorem dM_write_49 : decode cM_write 49 = .ok (.iaload, 1) := by decide +kernel
theorem dM_write_50 : decode cM_write 50 = .ok (.ifCond .lt 19, 3) := by decide +kernel
theorem dM_write_53 : decode cM_write 53 = .ok (.aload_n 0, 1) := by decide +kernel
theorem dM_write_54 : decode cM_write 54 = .ok (.getfield 7, 3) := by decide +kernel
theorem dM_write_57 : decode cM_write 57 = .ok (.iload 6, 2) := by decide +kernel
theorem dM_write_59 : decode cM_write 59 = .ok (.iaload, 1) := by decide +kernel
theorem dM_write_60 : decode cM_write 60 = .ok (.bipush 64, 2) := by decide +kernel
theorem dM_write_62 : decode cM_write 62 = .ok (.if_icmp .le 7, 3) := by decide +kernel
theorem dM_write_65 : decode cM_write 65 = .ok (.iconst 1, 1) := by decide +kernel
theorem dM_write_66 : decode cM_write 66 = .ok (.goto 4, 3) := by decide +kernel
theorem dM_write_69 : decode cM_write 69 = .ok (.iconst 0, 1) := by decide +kernel
theorem dM_write_70 : decode cM_write 70 = .ok (.istore 5, 2) := by decide +kernel
theorem dM_write_72 : decode cM_write 72 = .ok (.iinc 6 1, 3) := by decide +kernel
theorem dM_write_75 : decode cM_write 75 = .ok (.goto (-41), 3) := by decide +kernel
theorem dM_write_78 : decode cM_write 78 = .ok (.iconst 0, 1) := by decide +kernel
theorem dM_write_79 : decode cM_write 79 = .ok (.istore 6, 2) := by decide +kernel
theorem dM_write_81 : decode cM_write 81 = .ok (.iload 6, 2) := by decide +kernel
theorem dM_write_83 : decode cM_write 83 = .ok (.iload 5, 2) := by decide +kernel
theorem dM_write_85 : decode cM_write 85 = .ok (.ifCond .eq 8, 3) := by decide +kernel
theorem dM_write_88 : decode cM_write 88 = .ok (.bipush 16, 2) := by decide +kernel
theorem dM_write_90 : decode cM_write 90 = .ok (.goto 5, 3) := by decide +kernel
theorem dM_write_93 : decode cM_write 93 = .ok (.bipush 8, 2) := by decide +kernel
theorem dM_write_95 : decode cM_write 95 = .ok (.if_icmp .ge 27, 3) := by decide +kernel
theorem dM_write_98 : decode cM_write 98 = .ok (.aload 4, 2) := by decide +kernel
theorem dM_write_100 : decode cM_write 100 = .ok (.aload_n 0, 1) := by decide +kernel
theorem dM_write_101 : decode cM_write 101 = .ok (.getfield 84, 3) := by decide +kernel
theorem dM_write_104 : decode cM_write 104 = .ok (.iconst 0, 1) := by decide +kernel
theorem dM_write_105 : decode cM_write 105 = .ok (.iastore, 1) := by decide +kernel
theorem dM_write_106 : decode cM_write 106 = .ok (.aload_n 0, 1) := by decide +kernel
theorem dM_write_107 : decode cM_write 107 = .ok (.dup, 1) := by decide +kernel
theorem dM_write_108 : decode cM_write 108 = .ok (.getfield 84, 3) := by decide +kernel
theorem dM_write_111 : decode cM_write 111 = .ok (.iconst 1, 1) := by decide +kernel
theorem dM_write_112 : decode cM_write 112 = .ok (.iadd, 1) := by decide +kernel
theorem dM_write_113 : decode cM_write 113 = .ok (.putfield 84, 3) := by decide +kernel
theorem dM_write_116 : decode cM_write 116 = .ok (.iinc 6 1, 3) := by decide +kernel
theorem dM_write_119 : decode cM_write 119 = .ok (.goto (-38), 3) := by decide +kernel
theorem dM_write_122 : decode cM_write 122 = .ok (.aload 4, 2) := by decide +kernel
theorem dM_write_124 : decode cM_write 124 = .ok (.iconst 2, 1) := by decide +kernel
theorem dM_write_125 : decode cM_write 125 = .ok (.iload 5, 2) := by decide +kernel
theorem dM_write_127 : decode cM_write 127 = .ok (.ifCond .eq 9, 3) := by decide +kernel
theorem dM_write_130 : decode cM_write 130 = .ok (.sipush 128, 3) := by decide +kernel
theorem dM_write_133 : decode cM_write 133 = .ok (.goto 4, 3) := by decide +kernel
theorem dM_write_136 : decode cM_write 136 = .ok (.iconst 0, 1) := by decide +kernel
theorem dM_write_137 : decode cM_write 137 = .ok (.iastore, 1) := by decide +kernel
theorem dM_write_138 : decode cM_write 138 = .ok (.iconst 0, 1) := by decide +kernel
theorem dM_write_139 : decode cM_write 139 = .ok (.istore 6, 2) := by decide +kernel
theorem dM_write_141 : decode cM_write 141 = .ok (.iload 6, 2) := by decide +kernel
theorem dM_write_143 : decode cM_write 143 = .ok (.bipush 16, 2) := by decide +kernel
theorem dM_write_145 : decode cM_write 145 = .ok (.if_icmp .ge 62, 3) := by decide +kernel
theorem dM_write_148 : decode cM_write 148 = .ok (.aload_n 3, 1) := by decide +kernel
theorem dM_write_149 : decode cM_write 149 = .ok (.iload 6, 2) := by decide +kernel
theorem dM_write_151 : decode cM_write 151 = .ok (.iaload, 1) := by decide +kernel
theorem dM_write_152 : decode cM_write 152 = .ok (.ifCond .lt 49, 3) := by decide +kernel
theorem dM_write_155 : decode cM_write 155 = .ok (.aload_n 0, 1) := by decide +kernel
theorem dM_write_156 : decode cM_write 156 = .ok (.getfield 7, 3) := by decide +kernel
theorem dM_write_159 : decode cM_write 159 = .ok (.iload 6, 2) := by decide +kernel
theorem dM_write_161 : decode cM_write 161 = .ok (.iaload, 1) := by decide +kernel
theorem dM_write_162 : decode cM_write 162 = .ok (.iconst 1, 1) := by decide +kernel
theorem dM_write_163 : decode cM_write 163 = .ok (.isub, 1) := by decide +kernel
theorem dM_write_164 : decode cM_write 164 = .ok (.istore 7, 2) := by decide +kernel
theorem dM_write_166 : decode cM_write 166 = .ok (.aload 4, 2) := by decide +kernel
theorem dM_write_168 : decode cM_write 168 = .ok (.iconst 2, 1) := by decide +kernel
theorem dM_write_169 : decode cM_write 169 = .ok (.iload 7, 2) := by decide +kernel
theorem dM_write_171 : decode cM_write 171 = .ok (.bipush 8, 2) := by decide +kernel
theorem dM_write_173 : decode cM_write 173 = .ok (.idiv, 1) := by decide +kernel
theorem dM_write_174 : decode cM_write 174 = .ok (.iadd, 1) := by decide +kernel
theorem dM_write_175 : decode cM_write 175 = .ok (.dup2, 1) := by decide +kernel
theorem dM_write_176 : decode cM_write 176 = .ok (.iaload, 1) := by decide +kernel
theorem dM_write_177 : decode cM_write 177 = .ok (.sipush 128, 3) := by decide +kernel
theorem dM_write_180 : decode cM_write 180 = .ok (.iload 7, 2) := by decide +kernel
theorem dM_write_182 : decode cM_write 182 = .ok (.bipush 8, 2) := by decide +kernel
theorem dM_write_184 : decode cM_write 184 = .ok (.irem, 1) := by decide +kernel
theorem dM_write_185 : decode cM_write 185 = .ok (.ishr, 1) := by decide +kernel
theorem dM_write_186 : decode cM_write 186 = .ok (.iadd, 1) := by decide +kernel
theorem dM_write_187 : decode cM_write 187 = .ok (.iastore, 1) := by decide +kernel
theorem dM_write_188 : decode cM_write 188 = .ok (.aload_n 0, 1) := by decide +kernel
theorem dM_write_189 : decode cM_write 189 = .ok (.iload 6, 2) := by decide +kernel
theorem dM_write_191 : decode cM_write 191 = .ok (.aload_n 2, 1) := by decide +kernel
theorem dM_write_192 : decode cM_write 192 = .ok (.aload_n 3, 1) := by decide +kernel
theorem dM_write_193 : decode cM_write 193 = .ok (.iload 6, 2) := by decide +kernel
theorem dM_write_195 : decode cM_write 195 = .ok (.iaload, 1) := by decide +kernel
theorem dM_write_196 : decode cM_write 196 = .ok (.aload 4, 2) := by decide +kernel
theorem dM_write_198 : decode cM_write 198 = .ok (.invokevirtual 91, 3) := by decide +kernel
theorem dM_write_201 : decode cM_write 201 = .ok (.iinc 6 1, 3) := by decide +kernel
theorem dM_write_204 : decode cM_write 204 = .ok (.goto (-63), 3) := by decide +kernel
theorem dM_write_207 : decode cM_write 207 = .ok (.return_, 1) := by decide +kernel
theorem dM_writeField_0 : decode cM_writeField 0 = .ok (.aload_n 0, 1) := by decide +kernel
theorem dM_writeField_1 : decode cM_writeField 1 = .ok (.getfield 16, 3) := by decide +kernel
theorem dM_writeField_4 : decode cM_writeField 4 = .ok (.iload_n 1, 1) := by decide +kernel
theorem dM_writeField_5 : decode cM_writeField 5 = .ok (.iaload, 1) := by decide +kernel
theorem dM_writeField_6 : decode cM_writeField 6 = .ok (.iconst 2, 1) := by decide +kernel
theorem dM_writeField_7 : decode cM_writeField 7 = .ok (.irem, 1) := by decide +kernel
theorem dM_writeField_8 : decode cM_writeField 8 = .ok (.iconst 1, 1) := by decide +kernel
theorem dM_writeField_9 : decode cM_writeField 9 = .ok (.if_icmp .ne 45, 3) := by decide +kernel
theorem dM_writeField_12 : decode cM_writeField 12 = .ok (.aload_n 0, 1) := by decide +kernel
theorem dM_writeField_13 : decode cM_writeField 13 = .ok (.getfield 16, 3) := by decide +kernel
theorem dM_writeField_16 : decode cM_writeField 16 = .ok (.iload_n 1, 1) := by decide +kernel
theorem dM_writeField_17 : decode cM_writeField 17 = .ok (.iaload, 1) := by decide +kernel
theorem dM_writeField_18 : decode cM_writeField 18 = .ok (.iconst 1, 1) := by decide +kernel
theorem dM_writeField_19 : decode cM_writeField 19 = .ok (.if_icmp .ne 7, 3) := by decide +kernel
theorem dM_writeField_22 : decode cM_writeField 22 = .ok (.iconst 2, 1) := by decide +kernel
theorem dM_writeField_23 : decode cM_writeField 23 = .ok (.goto 4, 3) := by decide +kernel
theorem dM_writeField_26 : decode cM_writeField 26 = .ok (.iconst 3, 1) := by decide +kernel
theorem dM_writeField_27 : decode cM_writeField 27 = .ok (.istore 5, 2) := by decide +kernel
theorem dM_writeField_29 : decode cM_writeField 29 = .ok (.aload_n 0, 1) := by decide +kernel
theorem dM_writeField_30 : decode cM_writeField 30 = .ok (.getfield 38, 3) := by decide +kernel
theorem dM_writeField_33 : decode cM_writeField 33 = .ok (.iconst 0, 1) := by decide +kernel
theorem dM_writeField_34 : decode cM_writeField 34 = .ok (.iload_n 3, 1) := by decide +kernel
theorem dM_writeField_35 : decode cM_writeField 35 = .ok (.i2l, 1) := by decide +kernel
theorem dM_writeField_36 : decode cM_writeField 36 = .ok (.iload 5, 2) := by decide +kernel
theorem dM_writeField_38 : decode cM_writeField 38 = .ok (.invokestatic 62, 3) := by decide +kernel
theorem dM_writeField_41 : decode cM_writeField 41 = .ok (.aload_n 0, 1) := by decide +kernel
theorem dM_writeField_42 : decode cM_writeField 42 = .ok (.aload 4, 2) := by decide +kernel
theorem dM_writeField_44 : decode cM_writeField 44 = .ok (.aload_n 0, 1) := by decide +kernel
theorem dM_writeField_45 : decode cM_writeField 45 = .ok (.getfield 38, 3) := by decide +kernel
theorem dM_writeField_48 : decode cM_writeField 48 = .ok (.iconst 0, 1) := by decide +kernel
theorem dM_writeField_49 : decode cM_writeField 49 = .ok (.iload 5, 2) := by decide +kernel
theorem dM_writeField_51 : decode cM_writeField 51 = .ok (.invokevirtual 87, 3) := by decide +kernel
theorem dM_writeField_54 : decode cM_writeField 54 = .ok (.aload_n 0, 1) := by decide +kernel
theorem dM_writeField_55 : decode cM_writeField 55 = .ok (.getfield 16, 3) := by decide +kernel
theorem dM_writeField_58 : decode cM_writeField 58 = .ok (.iload_n 1, 1) := by decide +kernel
theorem dM_writeField_59 : decode cM_writeField 59 = .ok (.iaload, 1) := by decide +kernel
theorem dM_writeField_60 : decode cM_writeField 60 = .ok (.iconst 2, 1) := by decide +kernel
theorem dM_writeField_61 : decode cM_writeField 61 = .ok (.if_icmp .ge 16, 3) := by decide +kernel
theorem dM_writeField_64 : decode cM_writeField 64 = .ok (.aload_n 0, 1) := by decide +kernel
theorem dM_writeField_65 : decode cM_writeField 65 = .ok (.aload 4, 2) := by decide +kernel
theorem dM_writeField_67 : decode cM_writeField 67 = .ok (.aload_n 2, 1) := by decide +kernel
theorem dM_writeField_68 : decode cM_writeField 68 = .ok (.bipush 42, 2) := by decide +kernel
theorem dM_writeField_70 : decode cM_writeField 70 = .ok (.iload_n 1, 1) := by decide +kernel
theorem dM_writeField_71 : decode cM_writeField 71 = .ok (.imul, 1) := by decide +kernel
theorem dM_writeField_72 : decode cM_writeField 72 = .ok (.iload_n 3, 1) := by decide +kernel
theorem dM_writeField_73 : decode cM_writeField 73 = .ok (.invokevirtual 87, 3) := by decide +kernel
theorem dM_writeField_76 : decode cM_writeField 76 = .ok (.return_, 1) := by decide +kernel
theorem dM_writeField_77 : decode cM_writeField 77 = .ok (.iconst 0, 1) := by decide +kernel
theorem dM_writeField_78 : decode cM_writeField 78 = .ok (.istore 5, 2) := by decide +kernel
theorem dM_writeField_80 : decode cM_writeField 80 = .ok (.iload 5, 2) := by decide +kernel
theorem dM_writeField_82 : decode cM_writeField 82 = .ok (.iload_n 3, 1) := by decide +kernel
theorem dM_writeField_83 : decode cM_writeField 83 = .ok (.if_icmp .ge 57, 3) := by decide +kernel
theorem dM_writeField_86 : decode cM_writeField 86 = .ok (.aload_n 2, 1) := by decide +kernel
theorem dM_writeField_87 : decode cM_writeField 87 = .ok (.bipush 42, 2) := by decide +kernel
theorem dM_writeField_89 : decode cM_writeField 89 = .ok (.iload_n 1, 1) := by decide +kernel
theorem dM_writeField_90 : decode cM_writeField 90 = .ok (.imul, 1) := by decide +kernel
theorem dM_writeField_91 : decode cM_writeField 91 = .ok (.iload 5, 2) := by decide +kernel
theorem dM_writeField_93 : decode cM_writeField 93 = .ok (.iadd, 1) := by decide +kernel
theorem dM_writeField_94 : decode cM_writeField 94 = .ok (.iaload, 1) := by decide +kernel
theorem dM_writeField_95 : decode cM_writeField 95 = .ok (.istore 6, 2) := by decide +kernel
theorem dM_writeField_97 : decode cM_writeField 97 = .ok (.aload 4, 2) := by decide +kernel
theorem dM_writeField_99 : decode cM_writeField 99 = .ok (.aload_n 0, 1) := by decide +kernel
theorem dM_writeField_100 : decode cM_writeField 100 = .ok (.getfield 84, 3) := by decide +kernel
theorem dM_writeField_103 : decode cM_writeField 103 = .ok (.iload 6, 2) := by decide +kernel
theorem dM_writeField_105 : decode cM_writeField 105 = .ok (.bipush 10, 2) := by decide +kernel
theorem dM_writeField_107 : decode cM_writeField 107 = .ok (.if_icmp .ge 11, 3) := by decide +kernel
theorem dM_writeField_110 : decode cM_writeField 110 = .ok (.bipush 48, 2) := by decide +kernel
theorem dM_writeField_112 : decode cM_writeField 112 = .ok (.iload 6, 2) := by decide +kernel
theorem dM_writeField_114 : decode cM_writeField 114 = .ok (.iadd, 1) := by decide +kernel
theorem dM_writeField_115 : decode cM_writeField 115 = .ok (.goto 8, 3) := by decide +kernel
theorem dM_writeField_118 : decode cM_writeField 118 = .ok (.bipush 55, 2) := by decide +kernel
theorem dM_writeField_120 : decode cM_writeField 120 = .ok (.iload 6, 2) := by decide +kernel
theorem dM_writeField_122 : decode cM_writeField 122 = .ok (.iadd, 1) := by decide +kernel
theorem dM_writeField_123 : decode cM_writeField 123 = .ok (.iastore, 1) := by decide +kernel
theorem dM_writeField_124 : decode cM_writeField 124 = .ok (.aload_n 0, 1) := by decide +kernel
theorem dM_writeField_125 : decode cM_writeField 125 = .ok (.dup, 1) := by decide +kernel
theorem dM_writeField_126 : decode cM_writeField 126 = .ok (.getfield 84, 3) := by decide +kernel
theorem dM_writeField_129 : decode cM_writeField 129 = .ok (.iconst 1, 1) := by decide +kernel
theorem dM_writeField_130 : decode cM_writeField 130 = .ok (.iadd, 1) := by decide +kernel
theorem dM_writeField_131 : decode cM_writeField 131 = .ok (.putfield 84, 3) := by decide +kernel
theorem dM_writeField_134 : decode cM_writeField 134 = .ok (.iinc 5 1, 3) := by decide +kernel
theorem dM_writeField_137 : decode cM_writeField 137 = .ok (.goto (-57), 3) := by decide +kernel
theorem dM_writeField_140 : decode cM_writeField 140 = .ok (.return_, 1) := by decide +kernel
