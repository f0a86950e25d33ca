theorem dC_at_0 : decode cC_at 0 = .ok (.iload_n 1, 1) := by decide +kernel
theorem dC_at_1 : decode cC_at 1 = .ok (.invokestatic 64, 3) := by decide +kernel
theorem dC_at_4 : decode cC_at 4 = .ok (.istore_n 3, 1) := by decide +kernel
theorem dC_at_5 : decode cC_at 5 = .ok (.iload_n 2, 1) := by decide +kernel
theorem dC_at_6 : decode cC_at 6 = .ok (.ifCond .lt 16, 3) := by decide +kernel
theorem dC_at_9 : decode cC_at 9 = .ok (.iload_n 2, 1) := by decide +kernel
theorem dC_at_10 : decode cC_at 10 = .ok (.aload_n 0, 1) := by decide +kernel
theorem dC_at_11 : decode cC_at 11 = .ok (.getfield 10, 3) := by decide +kernel
theorem dC_at_14 : decode cC_at 14 = .ok (.getfield 89, 3) := by decide +kernel
theorem dC_at_17 : decode cC_at 17 = .ok (.iload_n 3, 1) := by decide +kernel
theorem dC_at_18 : decode cC_at 18 = .ok (.iaload, 1) := by decide +kernel
theorem dC_at_19 : decode cC_at 19 = .ok (.if_icmp .lt 13, 3) := by decide +kernel
theorem dC_at_22 : decode cC_at 22 = .ok (.new 32, 3) := by decide +kernel
theorem dC_at_25 : decode cC_at 25 = .ok (.dup, 1) := by decide +kernel
theorem dC_at_26 : decode cC_at 26 = .ok (.ldc 96, 2) := by decide +kernel
theorem dC_at_28 : decode cC_at 28 = .ok (.invokespecial 36, 3) := by decide +kernel
theorem dC_at_31 : decode cC_at 31 = .ok (.athrow, 1) := by decide +kernel
theorem dC_at_32 : decode cC_at 32 = .ok (.aload_n 0, 1) := by decide +kernel
theorem dC_at_33 : decode cC_at 33 = .ok (.getfield 10, 3) := by decide +kernel
theorem dC_at_36 : decode cC_at 36 = .ok (.iload_n 3, 1) := by decide +kernel
theorem dC_at_37 : decode cC_at 37 = .ok (.iload_n 2, 1) := by decide +kernel
theorem dC_at_38 : decode cC_at 38 = .ok (.invokevirtual 98, 3) := by decide +kernel
theorem dC_at_41 : decode cC_at 41 = .ok (.ireturn, 1) := by decide +kernel
theorem dC_bytesOfDigits_0 : decode cC_bytesOfDigits 0 = .ok (.iload_n 0, 1) := by decide +kernel
theorem dC_bytesOfDigits_1 : decode cC_bytesOfDigits 1 = .ok (.iconst 1, 1) := by decide +kernel
theorem dC_bytesOfDigits_2 : decode cC_bytesOfDigits 2 = .ok (.iadd, 1) := by decide +kernel
theorem dC_bytesOfDigits_3 : decode cC_bytesOfDigits 3 = .ok (.iconst 2, 1) := by decide +kernel
theorem dC_bytesOfDigits_4 : decode cC_bytesOfDigits 4 = .ok (.idiv, 1) := by decide +kernel
theorem dC_bytesOfDigits_5 : decode cC_bytesOfDigits 5 = .ok (.ireturn, 1) := by decide +kernel
theorem dC_compose_0 : decode cC_compose 0 = .ok (.aload_n 0, 1) := by decide +kernel
theorem dC_compose_1 : decode cC_compose 1 = .ok (.getfield 19, 3) := by decide +kernel
theorem dC_compose_4 : decode cC_compose 4 = .ok (.aload_n 0, 1) := by decide +kernel
theorem dC_compose_5 : decode cC_compose 5 = .ok (.getfield 10, 3) := by decide +kernel
theorem dC_compose_8 : decode cC_compose 8 = .ok (.invokevirtual 112, 3) := by decide +kernel
theorem dC_compose_11 : decode cC_compose 11 = .ok (.aload_n 0, 1) := by decide +kernel
theorem dC_compose_12 : decode cC_compose 12 = .ok (.getfield 19, 3) := by decide +kernel
theorem dC_compose_15 : decode cC_compose 15 = .ok (.getfield 116, 3) := by decide +kernel
theorem dC_compose_18 : decode cC_compose 18 = .ok (.ireturn, 1) := by decide +kernel
theorem dC_digitCount_0 : decode cC_digitCount 0 = .ok (.lload_n 0, 1) := by decide +kernel
theorem dC_digitCount_1 : decode cC_digitCount 1 = .ok (.lstore_n 2, 1) := by decide +kernel
theorem dC_digitCount_2 : decode cC_digitCount 2 = .ok (.iconst 1, 1) := by decide +kernel
theorem dC_digitCount_3 : decode cC_digitCount 3 = .ok (.istore 4, 2) := by decide +kernel
theorem dC_digitCount_5 : decode cC_digitCount 5 = .ok (.iload 4, 2) := by decide +kernel
theorem dC_digitCount_7 : decode cC_digitCount 7 = .ok (.bipush 19, 2) := by decide +kernel
theorem dC_digitCount_9 : decode cC_digitCount 9 = .ok (.if_icmp .ge 24, 3) := by decide +kernel
theorem dC_digitCount_12 : decode cC_digitCount 12 = .ok (.lload_n 2, 1) := by decide +kernel
theorem dC_digitCount_13 : decode cC_digitCount 13 = .ok (.ldc2_w 163, 3) := by decide +kernel
theorem dC_digitCount_16 : decode cC_digitCount 16 = .ok (.ldiv, 1) := by decide +kernel
theorem dC_digitCount_17 : decode cC_digitCount 17 = .ok (.lstore_n 2, 1) := by decide +kernel
theorem dC_digitCount_18 : decode cC_digitCount 18 = .ok (.lload_n 2, 1) := by decide +kernel
theorem dC_digitCount_19 : decode cC_digitCount 19 = .ok (.lconst 0, 1) := by decide +kernel
theorem dC_digitCount_20 : decode cC_digitCount 20 = .ok (.lcmp, 1) := by decide +kernel
theorem dC_digitCount_21 : decode cC_digitCount 21 = .ok (.ifCond .ne 6, 3) := by decide +kernel
theorem dC_digitCount_24 : decode cC_digitCount 24 = .ok (.iload 4, 2) := by decide +kernel
theorem dC_digitCount_26 : decode cC_digitCount 26 = .ok (.ireturn, 1) := by decide +kernel
theorem dC_digitCount_27 : decode cC_digitCount 27 = .ok (.iinc 4 1, 3) := by decide +kernel
theorem dC_digitCount_30 : decode cC_digitCount 30 = .ok (.goto (-25), 3) := by decide +kernel
theorem dC_digitCount_33 : decode cC_digitCount 33 = .ok (.bipush 19, 2) := by decide +kernel
theorem dC_digitCount_35 : decode cC_digitCount 35 = .ok (.ireturn, 1) := by decide +kernel
theorem dC_digitSlot_0 : decode cC_digitSlot 0 = .ok (.iload_n 0, 1) := by decide +kernel
theorem dC_digitSlot_1 : decode cC_digitSlot 1 = .ok (.invokestatic 64, 3) := by decide +kernel
theorem dC_digitSlot_4 : decode cC_digitSlot 4 = .ok (.istore_n 1, 1) := by decide +kernel
theorem dC_digitSlot_5 : decode cC_digitSlot 5 = .ok (.getstatic 67, 3) := by decide +kernel
theorem dC_digitSlot_8 : decode cC_digitSlot 8 = .ok (.iload_n 1, 1) := by decide +kernel
theorem dC_digitSlot_9 : decode cC_digitSlot 9 = .ok (.iaload, 1) := by decide +kernel
theorem dC_digitSlot_10 : decode cC_digitSlot 10 = .ok (.ifCond .eq 13, 3) := by decide +kernel
theorem dC_digitSlot_13 : decode cC_digitSlot 13 = .ok (.new 32, 3) := by decide +kernel
theorem dC_digitSlot_16 : decode cC_digitSlot 16 = .ok (.dup, 1) := by decide +kernel
theorem dC_digitSlot_17 : decode cC_digitSlot 17 = .ok (.ldc 161, 2) := by decide +kernel
theorem dC_digitSlot_19 : decode cC_digitSlot 19 = .ok (.invokespecial 36, 3) := by decide +kernel
theorem dC_digitSlot_22 : decode cC_digitSlot 22 = .ok (.athrow, 1) := by decide +kernel
theorem dC_digitSlot_23 : decode cC_digitSlot 23 = .ok (.iload_n 1, 1) := by decide +kernel
theorem dC_digitSlot_24 : decode cC_digitSlot 24 = .ok (.ireturn, 1) := by decide +kernel
theorem dC_digits_0 : decode cC_digits 0 = .ok (.iload_n 1, 1) := by decide +kernel
theorem dC_digits_1 : decode cC_digits 1 = .ok (.invokestatic 43, 3) := by decide +kernel
theorem dC_digits_4 : decode cC_digits 4 = .ok (.istore 4, 2) := by decide +kernel
theorem dC_digits_6 : decode cC_digits 6 = .ok (.lload_n 2, 1) := by decide +kernel
theorem dC_digits_7 : decode cC_digits 7 = .ok (.invokestatic 47, 3) := by decide +kernel
theorem dC_digits_10 : decode cC_digits 10 = .ok (.istore 5, 2) := by decide +kernel
theorem dC_digits_12 : decode cC_digits 12 = .ok (.lload_n 2, 1) := by decide +kernel
theorem dC_digits_13 : decode cC_digits 13 = .ok (.lconst 0, 1) := by decide +kernel
theorem dC_digits_14 : decode cC_digits 14 = .ok (.lcmp, 1) := by decide +kernel
theorem dC_digits_15 : decode cC_digits 15 = .ok (.ifCond .lt 14, 3) := by decide +kernel
theorem dC_digits_18 : decode cC_digits 18 = .ok (.iload 5, 2) := by decide +kernel
theorem dC_digits_20 : decode cC_digits 20 = .ok (.getstatic 51, 3) := by decide +kernel
theorem dC_digits_23 : decode cC_digits 23 = .ok (.iload 4, 2) := by decide +kernel
theorem dC_digits_25 : decode cC_digits 25 = .ok (.iaload, 1) := by decide +kernel
theorem dC_digits_26 : decode cC_digits 26 = .ok (.if_icmp .le 13, 3) := by decide +kernel
theorem dC_digits_29 : decode cC_digits 29 = .ok (.new 32, 3) := by decide +kernel
theorem dC_digits_32 : decode cC_digits 32 = .ok (.dup, 1) := by decide +kernel
theorem dC_digits_33 : decode cC_digits 33 = .ok (.ldc 55, 2) := by decide +kernel
theorem dC_digits_35 : decode cC_digits 35 = .ok (.invokespecial 36, 3) := by decide +kernel
theorem dC_digits_38 : decode cC_digits 38 = .ok (.athrow, 1) := by decide +kernel
theorem dC_digits_39 : decode cC_digits 39 = .ok (.aload_n 0, 1) := by decide +kernel
theorem dC_digits_40 : decode cC_digits 40 = .ok (.getfield 10, 3) := by decide +kernel
theorem dC_digits_43 : decode cC_digits 43 = .ok (.iload 4, 2) := by decide +kernel
theorem dC_digits_45 : decode cC_digits 45 = .ok (.getstatic 57, 3) := by decide +kernel
theorem dC_digits_48 : decode cC_digits 48 = .ok (.iload 4, 2) := by decide +kernel
theorem dC_digits_50 : decode cC_digits 50 = .ok (.iaload, 1) := by decide +kernel
theorem dC_digits_51 : decode cC_digits 51 = .ok (.ifCond .ne 12, 3) := by decide +kernel
theorem dC_digits_54 : decode cC_digits 54 = .ok (.getstatic 51, 3) := by decide +kernel
theorem dC_digits_57 : decode cC_digits 57 = .ok (.iload 4, 2) := by decide +kernel
theorem dC_digits_59 : decode cC_digits 59 = .ok (.iaload, 1) := by decide +kernel
theorem dC_digits_60 : decode cC_digits 60 = .ok (.goto 5, 3) := by decide +kernel
theorem dC_digits_63 : decode cC_digits 63 = .ok (.iload 5, 2) := by decide +kernel
theorem dC_digits_65 : decode cC_digits 65 = .ok (.lload_n 2, 1) := by decide +kernel
theorem dC_digits_66 : decode cC_digits 66 = .ok (.invokevirtual 60, 3) := by decide +kernel
theorem dC_digits_69 : decode cC_digits 69 = .ok (.return_, 1) := by decide +kernel
theorem dC_fault_0 : decode cC_fault 0 = .ok (.iload_n 1, 1) := by decide +kernel
theorem dC_fault_1 : decode cC_fault 1 = .ok (.ifCond .eq 18, 3) := by decide +kernel
theorem dC_fault_4 : decode cC_fault 4 = .ok (.iload_n 1, 1) := by decide +kernel
theorem dC_fault_5 : decode cC_fault 5 = .ok (.iconst 1, 1) := by decide +kernel
theorem dC_fault_6 : decode cC_fault 6 = .ok (.if_icmp .eq 13, 3) := by decide +kernel
theorem dC_fault_9 : decode cC_fault 9 = .ok (.new 32, 3) := by decide +kernel
theorem dC_fault_12 : decode cC_fault 12 = .ok (.dup, 1) := by decide +kernel
theorem dC_fault_13 : decode cC_fault 13 = .ok (.ldc 138, 2) := by decide +kernel
theorem dC_fault_15 : decode cC_fault 15 = .ok (.invokespecial 36, 3) := by decide +kernel
theorem dC_fault_18 : decode cC_fault 18 = .ok (.athrow, 1) := by decide +kernel
theorem dC_fault_19 : decode cC_fault 19 = .ok (.aload_n 0, 1) := by decide +kernel
theorem dC_fault_20 : decode cC_fault 20 = .ok (.getfield 28, 3) := by decide +kernel
theorem dC_fault_23 : decode cC_fault 23 = .ok (.invokevirtual 140, 3) := by decide +kernel
theorem dC_fault_26 : decode cC_fault 26 = .ok (.pop, 1) := by decide +kernel
theorem dC_fault_27 : decode cC_fault 27 = .ok (.iload_n 1, 1) := by decide +kernel
theorem dC_fault_28 : decode cC_fault 28 = .ok (.ifCond .ne 13, 3) := by decide +kernel
theorem dC_fault_31 : decode cC_fault 31 = .ok (.aload_n 0, 1) := by decide +kernel
theorem dC_fault_32 : decode cC_fault 32 = .ok (.getfield 28, 3) := by decide +kernel
theorem dC_fault_35 : decode cC_fault 35 = .ok (.getfield 144, 3) := by decide +kernel
theorem dC_fault_38 : decode cC_fault 38 = .ok (.goto 10, 3) := by decide +kernel
theorem dC_fault_41 : decode cC_fault 41 = .ok (.aload_n 0, 1) := by decide +kernel
theorem dC_fault_42 : decode cC_fault 42 = .ok (.getfield 28, 3) := by decide +kernel
theorem dC_fault_45 : decode cC_fault 45 = .ok (.getfield 147, 3) := by decide +kernel
theorem dC_fault_48 : decode cC_fault 48 = .ok (.ireturn, 1) := by decide +kernel
theorem dC_feed_0 : decode cC_feed 0 = .ok (.aload_n 0, 1) := by decide +kernel
theorem dC_feed_1 : decode cC_feed 1 = .ok (.getfield 19, 3) := by decide +kernel
theorem dC_feed_4 : decode cC_feed 4 = .ok (.getfield 116, 3) := by decide +kernel
theorem dC_feed_7 : decode cC_feed 7 = .ok (.iconst 4, 1) := by decide +kernel
theorem dC_feed_8 : decode cC_feed 8 = .ok (.iadd, 1) := by decide +kernel
theorem dC_feed_9 : decode cC_feed 9 = .ok (.sipush 400, 3) := by decide +kernel
theorem dC_feed_12 : decode cC_feed 12 = .ok (.if_icmp .le 13, 3) := by decide +kernel
theorem dC_feed_15 : decode cC_feed 15 = .ok (.new 119, 3) := by decide +kernel
theorem dC_feed_18 : decode cC_feed 18 = .ok (.dup, 1) := by decide +kernel
theorem dC_feed_19 : decode cC_feed 19 = .ok (.ldc 121, 2) := by decide +kernel
theorem dC_feed_21 : decode cC_feed 21 = .ok (.invokespecial 123, 3) := by decide +kernel
theorem dC_feed_24 : decode cC_feed 24 = .ok (.athrow, 1) := by decide +kernel
theorem dC_feed_25 : decode cC_feed 25 = .ok (.bipush 24, 2) := by decide +kernel
theorem dC_feed_27 : decode cC_feed 27 = .ok (.istore_n 2, 1) := by decide +kernel
theorem dC_feed_28 : decode cC_feed 28 = .ok (.iload_n 2, 1) := by decide +kernel
theorem dC_feed_29 : decode cC_feed 29 = .ok (.ifCond .lt 19, 3) := by decide +kernel
theorem dC_feed_32 : decode cC_feed 32 = .ok (.aload_n 0, 1) := by decide +kernel
theorem dC_feed_33 : decode cC_feed 33 = .ok (.getfield 19, 3) := by decide +kernel
theorem dC_feed_36 : decode cC_feed 36 = .ok (.iload_n 1, 1) := by decide +kernel
theorem dC_feed_37 : decode cC_feed 37 = .ok (.iload_n 2, 1) := by decide +kernel
theorem dC_feed_38 : decode cC_feed 38 = .ok (.ishr, 1) := by decide +kernel
theorem dC_feed_39 : decode cC_feed 39 = .ok (.invokevirtual 124, 3) := by decide +kernel
theorem dC_feed_42 : decode cC_feed 42 = .ok (.iinc 2 (-8), 3) := by decide +kernel
theorem dC_feed_45 : decode cC_feed 45 = .ok (.goto (-17), 3) := by decide +kernel
theorem dC_feed_48 : decode cC_feed 48 = .ok (.aload_n 0, 1) := by decide +kernel
theorem dC_feed_49 : decode cC_feed 49 = .ok (.getfield 19, 3) := by decide +kernel
theorem dC_feed_52 : decode cC_feed 52 = .ok (.getfield 116, 3) := by decide +kernel
theorem dC_feed_55 : decode cC_feed 55 = .ok (.ireturn, 1) := by decide +kernel
theorem dC_fields_0 : decode cC_fields 0 = .ok (.aload_n 0, 1) := by decide +kernel
theorem dC_fields_1 : decode cC_fields 1 = .ok (.getfield 10, 3) := by decide +kernel
theorem dC_fields_4 : decode cC_fields 4 = .ok (.invokevirtual 108, 3) := by decide +kernel
theorem dC_fields_7 : decode cC_fields 7 = .ok (.ireturn, 1) := by decide +kernel
theorem dC_init_0 : decode cC_init 0 = .ok (.aload_n 0, 1) := by decide +kernel
theorem dC_init_1 : decode cC_init 1 = .ok (.invokespecial 1, 3) := by decide +kernel
theorem dC_init_4 : decode cC_init 4 = .ok (.aload_n 0, 1) := by decide +kernel
theorem dC_init_5 : decode cC_init 5 = .ok (.new 7, 3) := by decide +kernel
theorem dC_init_8 : decode cC_init 8 = .ok (.dup, 1) := by decide +kernel
theorem dC_init_9 : decode cC_init 9 = .ok (.invokespecial 9, 3) := by decide +kernel
theorem dC_init_12 : decode cC_init 12 = .ok (.putfield 10, 3) := by decide +kernel
theorem dC_init_15 : decode cC_init 15 = .ok (.aload_n 0, 1) := by decide +kernel
theorem dC_init_16 : decode cC_init 16 = .ok (.new 16, 3) := by decide +kernel
theorem dC_init_19 : decode cC_init 19 = .ok (.dup, 1) := by decide +kernel
theorem dC_init_20 : decode cC_init 20 = .ok (.invokespecial 18, 3) := by decide +kernel
theorem dC_init_23 : decode cC_init 23 = .ok (.putfield 19, 3) := by decide +kernel
theorem dC_init_26 : decode cC_init 26 = .ok (.aload_n 0, 1) := by decide +kernel
theorem dC_init_27 : decode cC_init 27 = .ok (.new 23, 3) := by decide +kernel
theorem dC_init_30 : decode cC_init 30 = .ok (.dup, 1) := by decide +kernel
theorem dC_init_31 : decode cC_init 31 = .ok (.aload_n 0, 1) := by decide +kernel
theorem dC_init_32 : decode cC_init 32 = .ok (.getfield 19, 3) := by decide +kernel
theorem dC_init_35 : decode cC_init 35 = .ok (.invokespecial 25, 3) := by decide +kernel
theorem dC_init_38 : decode cC_init 38 = .ok (.putfield 28, 3) := by decide +kernel
theorem dC_init_41 : decode cC_init 41 = .ok (.return_, 1) := by decide +kernel
theorem dC_knownSlot_0 : decode cC_knownSlot 0 = .ok (.iconst 0, 1) := by decide +kernel
theorem dC_knownSlot_1 : decode cC_knownSlot 1 = .ok (.istore_n 1, 1) := by decide +kernel
theorem dC_knownSlot_2 : decode cC_knownSlot 2 = .ok (.iload_n 1, 1) := by decide +kernel
theorem dC_knownSlot_3 : decode cC_knownSlot 3 = .ok (.bipush 16, 2) := by decide +kernel
theorem dC_knownSlot_5 : decode cC_knownSlot 5 = .ok (.if_icmp .ge 20, 3) := by decide +kernel
theorem dC_knownSlot_8 : decode cC_knownSlot 8 = .ok (.getstatic 156, 3) := by decide +kernel
theorem dC_knownSlot_11 : decode cC_knownSlot 11 = .ok (.iload_n 1, 1) := by decide +kernel
theorem dC_knownSlot_12 : decode cC_knownSlot 12 = .ok (.iaload, 1) := by decide +kernel
theorem dC_knownSlot_13 : decode cC_knownSlot 13 = .ok (.iload_n 0, 1) := by decide +kernel
theorem dC_knownSlot_14 : decode cC_knownSlot 14 = .ok (.if_icmp .ne 5, 3) := by decide +kernel
theorem dC_knownSlot_17 : decode cC_knownSlot 17 = .ok (.iload_n 1, 1) := by decide +kernel
theorem dC_knownSlot_18 : decode cC_knownSlot 18 = .ok (.ireturn, 1) := by decide +kernel
theorem dC_knownSlot_19 : decode cC_knownSlot 19 = .ok (.iinc 1 1, 3) := by decide +kernel
theorem dC_knownSlot_22 : decode cC_knownSlot 22 = .ok (.goto (-20), 3) := by decide +kernel
theorem dC_knownSlot_25 : decode cC_knownSlot 25 = .ok (.new 32, 3) := by decide +kernel
theorem dC_knownSlot_28 : decode cC_knownSlot 28 = .ok (.dup, 1) := by decide +kernel
theorem dC_knownSlot_29 : decode cC_knownSlot 29 = .ok (.ldc 159, 2) := by decide +kernel
theorem dC_knownSlot_31 : decode cC_knownSlot 31 = .ok (.invokespecial 36, 3) := by decide +kernel
theorem dC_knownSlot_34 : decode cC_knownSlot 34 = .ok (.athrow, 1) := by decide +kernel
theorem dC_letters_0 : decode cC_letters 0 = .ok (.iload_n 1, 1) := by decide +kernel
theorem dC_letters_1 : decode cC_letters 1 = .ok (.invokestatic 64, 3) := by decide +kernel
theorem dC_letters_4 : decode cC_letters 4 = .ok (.istore 5, 2) := by decide +kernel
theorem dC_letters_6 : decode cC_letters 6 = .ok (.getstatic 67, 3) := by decide +kernel
theorem dC_letters_9 : decode cC_letters 9 = .ok (.iload 5, 2) := by decide +kernel
theorem dC_letters_11 : decode cC_letters 11 = .ok (.iaload, 1) := by decide +kernel
theorem dC_letters_12 : decode cC_letters 12 = .ok (.ifCond .ne 13, 3) := by decide +kernel
theorem dC_letters_15 : decode cC_letters 15 = .ok (.new 32, 3) := by decide +kernel
theorem dC_letters_18 : decode cC_letters 18 = .ok (.dup, 1) := by decide +kernel
theorem dC_letters_19 : decode cC_letters 19 = .ok (.ldc 70, 2) := by decide +kernel
theorem dC_letters_21 : decode cC_letters 21 = .ok (.invokespecial 36, 3) := by decide +kernel
theorem dC_letters_24 : decode cC_letters 24 = .ok (.athrow, 1) := by decide +kernel
theorem dC_letters_25 : decode cC_letters 25 = .ok (.getstatic 57, 3) := by decide +kernel
theorem dC_letters_28 : decode cC_letters 28 = .ok (.iload 5, 2) := by decide +kernel
theorem dC_letters_30 : decode cC_letters 30 = .ok (.iaload, 1) := by decide +kernel
theorem dC_letters_31 : decode cC_letters 31 = .ok (.ifCond .ne 7, 3) := by decide +kernel
theorem dC_letters_34 : decode cC_letters 34 = .ok (.iconst 1, 1) := by decide +kernel
theorem dC_letters_35 : decode cC_letters 35 = .ok (.goto 4, 3) := by decide +kernel
theorem dC_letters_38 : decode cC_letters 38 = .ok (.iconst 0, 1) := by decide +kernel
theorem dC_letters_39 : decode cC_letters 39 = .ok (.istore 6, 2) := by decide +kernel
theorem dC_letters_41 : decode cC_letters 41 = .ok (.iload 6, 2) := by decide +kernel
theorem dC_letters_43 : decode cC_letters 43 = .ok (.ifCond .eq 11, 3) := by decide +kernel
theorem dC_letters_46 : decode cC_letters 46 = .ok (.iload 4, 2) := by decide +kernel
theorem dC_letters_48 : decode cC_letters 48 = .ok (.ifCond .eq 33, 3) := by decide +kernel
theorem dC_letters_51 : decode cC_letters 51 = .ok (.goto 20, 3) := by decide +kernel
theorem dC_letters_54 : decode cC_letters 54 = .ok (.iload 4, 2) := by decide +kernel
theorem dC_letters_56 : decode cC_letters 56 = .ok (.iconst 1, 1) := by decide +kernel
theorem dC_letters_57 : decode cC_letters 57 = .ok (.if_icmp .lt 14, 3) := by decide +kernel
theorem dC_letters_60 : decode cC_letters 60 = .ok (.iload 4, 2) := by decide +kernel
theorem dC_letters_62 : decode cC_letters 62 = .ok (.getstatic 51, 3) := by decide +kernel
theorem dC_letters_65 : decode cC_letters 65 = .ok (.iload 5, 2) := by decide +kernel
theorem dC_letters_67 : decode cC_letters 67 = .ok (.iaload, 1) := by decide +kernel
theorem dC_letters_68 : decode cC_letters 68 = .ok (.if_icmp .le 13, 3) := by decide +kernel
theorem dC_letters_71 : decode cC_letters 71 = .ok (.new 32, 3) := by decide +kernel
theorem dC_letters_74 : decode cC_letters 74 = .ok (.dup, 1) := by decide +kernel
theorem dC_letters_75 : decode cC_letters 75 = .ok (.ldc 72, 2) := by decide +kernel
theorem dC_letters_77 : decode cC_letters 77 = .ok (.invokespecial 36, 3) := by decide +kernel
theorem dC_letters_80 : decode cC_letters 80 = .ok (.athrow, 1) := by decide +kernel
theorem dC_letters_81 : decode cC_letters 81 = .ok (.aload_n 0, 1) := by decide +kernel
theorem dC_letters_82 : decode cC_letters 82 = .ok (.getfield 10, 3) := by decide +kernel
theorem dC_letters_85 : decode cC_letters 85 = .ok (.iload 5, 2) := by decide +kernel
theorem dC_letters_87 : decode cC_letters 87 = .ok (.iload 6, 2) := by decide +kernel
theorem dC_letters_89 : decode cC_letters 89 = .ok (.ifCond .eq 12, 3) := by decide +kernel
theorem dC_letters_92 : decode cC_letters 92 = .ok (.getstatic 51, 3) := by decide +kernel
theorem dC_letters_95 : decode cC_letters 95 = .ok (.iload 5, 2) := by decide +kernel
theorem dC_letters_97 : decode cC_letters 97 = .ok (.iaload, 1) := by decide +kernel
theorem dC_letters_98 : decode cC_letters 98 = .ok (.goto 5, 3) := by decide +kernel
theorem dC_letters_101 : decode cC_letters 101 = .ok (.iload 4, 2) := by decide +kernel
theorem dC_letters_103 : decode cC_letters 103 = .ok (.lload_n 2, 1) := by decide +kernel
theorem dC_letters_104 : decode cC_letters 104 = .ok (.invokevirtual 74, 3) := by decide +kernel
theorem dC_letters_107 : decode cC_letters 107 = .ok (.return_, 1) := by decide +kernel
theorem dC_mapBit_0 : decode cC_mapBit 0 = .ok (.sipush 128, 3) := by decide +kernel
theorem dC_mapBit_3 : decode cC_mapBit 3 = .ok (.iload_n 0, 1) := by decide +kernel
theorem dC_mapBit_4 : decode cC_mapBit 4 = .ok (.iconst 1, 1) := by decide +kernel
theorem dC_mapBit_5 : decode cC_mapBit 5 = .ok (.isub, 1) := by decide +kernel
theorem dC_mapBit_6 : decode cC_mapBit 6 = .ok (.bipush 8, 2) := by decide +kernel
theorem dC_mapBit_8 : decode cC_mapBit 8 = .ok (.irem, 1) := by decide +kernel
theorem dC_mapBit_9 : decode cC_mapBit 9 = .ok (.ishr, 1) := by decide +kernel
theorem dC_mapBit_10 : decode cC_mapBit 10 = .ok (.ireturn, 1) := by decide +kernel
theorem dC_mapByte_0 : decode cC_mapByte 0 = .ok (.iload_n 0, 1) := by decide +kernel
theorem dC_mapByte_1 : decode cC_mapByte 1 = .ok (.iconst 1, 1) := by decide +kernel
theorem dC_mapByte_2 : decode cC_mapByte 2 = .ok (.isub, 1) := by decide +kernel
theorem dC_mapByte_3 : decode cC_mapByte 3 = .ok (.bipush 8, 2) := by decide +kernel
theorem dC_mapByte_5 : decode cC_mapByte 5 = .ok (.idiv, 1) := by decide +kernel
theorem dC_mapByte_6 : decode cC_mapByte 6 = .ok (.ireturn, 1) := by decide +kernel
theorem dC_message_0 : decode cC_message 0 = .ok (.iload_n 1, 1) := by decide +kernel
theorem dC_message_1 : decode cC_message 1 = .ok (.ifCond .lt 10, 3) := by decide +kernel
theorem dC_message_4 : decode cC_message 4 = .ok (.iload_n 1, 1) := by decide +kernel
theorem dC_message_5 : decode cC_message 5 = .ok (.sipush 9999, 3) := by decide +kernel
theorem dC_message_8 : decode cC_message 8 = .ok (.if_icmp .le 13, 3) := by decide +kernel
theorem dC_message_11 : decode cC_message 11 = .ok (.new 32, 3) := by decide +kernel
theorem dC_message_14 : decode cC_message 14 = .ok (.dup, 1) := by decide +kernel
theorem dC_message_15 : decode cC_message 15 = .ok (.ldc 34, 2) := by decide +kernel
theorem dC_message_17 : decode cC_message 17 = .ok (.invokespecial 36, 3) := by decide +kernel
theorem dC_message_20 : decode cC_message 20 = .ok (.athrow, 1) := by decide +kernel
theorem dC_message_21 : decode cC_message 21 = .ok (.aload_n 0, 1) := by decide +kernel
theorem dC_message_22 : decode cC_message 22 = .ok (.getfield 10, 3) := by decide +kernel
theorem dC_message_25 : decode cC_message 25 = .ok (.iload_n 1, 1) := by decide +kernel
theorem dC_message_26 : decode cC_message 26 = .ok (.invokevirtual 39, 3) := by decide +kernel
theorem dC_message_29 : decode cC_message 29 = .ok (.return_, 1) := by decide +kernel
theorem dC_number_0 : decode cC_number 0 = .ok (.iload_n 1, 1) := by decide +kernel
theorem dC_number_1 : decode cC_number 1 = .ok (.invokestatic 43, 3) := by decide +kernel
theorem dC_number_4 : decode cC_number 4 = .ok (.istore_n 2, 1) := by decide +kernel
theorem dC_number_5 : decode cC_number 5 = .ok (.aload_n 0, 1) := by decide +kernel
theorem dC_number_6 : decode cC_number 6 = .ok (.getfield 10, 3) := by decide +kernel
theorem dC_number_9 : decode cC_number 9 = .ok (.iload_n 2, 1) := by decide +kernel
theorem dC_number_10 : decode cC_number 10 = .ok (.invokevirtual 85, 3) := by decide +kernel
theorem dC_number_13 : decode cC_number 13 = .ok (.ifCond .eq 14, 3) := by decide +kernel
theorem dC_number_16 : decode cC_number 16 = .ok (.aload_n 0, 1) := by decide +kernel
theorem dC_number_17 : decode cC_number 17 = .ok (.getfield 10, 3) := by decide +kernel
theorem dC_number_20 : decode cC_number 20 = .ok (.iload_n 2, 1) := by decide +kernel
theorem dC_number_21 : decode cC_number 21 = .ok (.invokevirtual 102, 3) := by decide +kernel
theorem dC_number_24 : decode cC_number 24 = .ok (.goto 6, 3) := by decide +kernel
theorem dC_number_27 : decode cC_number 27 = .ok (.ldc2_w 106, 3) := by decide +kernel
theorem dC_number_30 : decode cC_number 30 = .ok (.lreturn, 1) := by decide +kernel
theorem dC_omit_0 : decode cC_omit 0 = .ok (.iload_n 1, 1) := by decide +kernel
theorem dC_omit_1 : decode cC_omit 1 = .ok (.invokestatic 64, 3) := by decide +kernel
theorem dC_omit_4 : decode cC_omit 4 = .ok (.istore_n 2, 1) := by decide +kernel
theorem dC_omit_5 : decode cC_omit 5 = .ok (.aload_n 0, 1) := by decide +kernel
theorem dC_omit_6 : decode cC_omit 6 = .ok (.getfield 10, 3) := by decide +kernel
theorem dC_omit_9 : decode cC_omit 9 = .ok (.iload_n 2, 1) := by decide +kernel
theorem dC_omit_10 : decode cC_omit 10 = .ok (.invokevirtual 85, 3) := by decide +kernel
theorem dC_omit_13 : decode cC_omit 13 = .ok (.istore_n 3, 1) := by decide +kernel
theorem dC_omit_14 : decode cC_omit 14 = .ok (.aload_n 0, 1) := by decide +kernel
theorem dC_omit_15 : decode cC_omit 15 = .ok (.getfield 10, 3) := by decide +kernel
theorem dC_omit_18 : decode cC_omit 18 = .ok (.getfield 89, 3) := by decide +kernel
theorem dC_omit_21 : decode cC_omit 21 = .ok (.iload_n 2, 1) := by decide +kernel
theorem dC_omit_22 : decode cC_omit 22 = .ok (.iconst 0, 1) := by decide +kernel
theorem dC_omit_23 : decode cC_omit 23 = .ok (.iastore, 1) := by decide +kernel
theorem dC_omit_24 : decode cC_omit 24 = .ok (.iload_n 3, 1) := by decide +kernel
theorem dC_omit_25 : decode cC_omit 25 = .ok (.ireturn, 1) := by decide +kernel
theorem dC_original_0 : decode cC_original 0 = .ok (.iload_n 1, 1) := by decide +kernel
theorem dC_original_1 : decode cC_original 1 = .ok (.ifCond .lt 30, 3) := by decide +kernel
theorem dC_original_4 : decode cC_original 4 = .ok (.iload_n 1, 1) := by decide +kernel
theorem dC_original_5 : decode cC_original 5 = .ok (.sipush 9999, 3) := by decide +kernel
theorem dC_original_8 : decode cC_original 8 = .ok (.if_icmp .gt 23, 3) := by decide +kernel
theorem dC_original_11 : decode cC_original 11 = .ok (.iload_n 2, 1) := by decide +kernel
theorem dC_original_12 : decode cC_original 12 = .ok (.ifCond .lt 19, 3) := by decide +kernel
theorem dC_original_15 : decode cC_original 15 = .ok (.iload_n 2, 1) := by decide +kernel
theorem dC_original_16 : decode cC_original 16 = .ok (.ldc 77, 2) := by decide +kernel
theorem dC_original_18 : decode cC_original 18 = .ok (.if_icmp .gt 13, 3) := by decide +kernel
theorem dC_original_21 : decode cC_original 21 = .ok (.iload_n 3, 1) := by decide +kernel
theorem dC_original_22 : decode cC_original 22 = .ok (.ifCond .lt 9, 3) := by decide +kernel
theorem dC_original_25 : decode cC_original 25 = .ok (.iload_n 3, 1) := by decide +kernel
theorem dC_original_26 : decode cC_original 26 = .ok (.ldc 78, 2) := by decide +kernel
theorem dC_original_28 : decode cC_original 28 = .ok (.if_icmp .le 13, 3) := by decide +kernel
theorem dC_original_31 : decode cC_original 31 = .ok (.new 32, 3) := by decide +kernel
theorem dC_original_34 : decode cC_original 34 = .ok (.dup, 1) := by decide +kernel
theorem dC_original_35 : decode cC_original 35 = .ok (.ldc 79, 2) := by decide +kernel
theorem dC_original_37 : decode cC_original 37 = .ok (.invokespecial 36, 3) := by decide +kernel
theorem dC_original_40 : decode cC_original 40 = .ok (.athrow, 1) := by decide +kernel
theorem dC_original_41 : decode cC_original 41 = .ok (.aload_n 0, 1) := by decide +kernel
theorem dC_original_42 : decode cC_original 42 = .ok (.getfield 10, 3) := by decide +kernel
theorem dC_original_45 : decode cC_original 45 = .ok (.iload_n 1, 1) := by decide +kernel
theorem dC_original_46 : decode cC_original 46 = .ok (.iload_n 2, 1) := by decide +kernel
theorem dC_original_47 : decode cC_original 47 = .ok (.iload_n 3, 1) := by decide +kernel
theorem dC_original_48 : decode cC_original 48 = .ok (.invokevirtual 81, 3) := by decide +kernel
theorem dC_original_51 : decode cC_original 51 = .ok (.return_, 1) := by decide +kernel
theorem dC_read_0 : decode cC_read 0 = .ok (.aload_n 0, 1) := by decide +kernel
theorem dC_read_1 : decode cC_read 1 = .ok (.getfield 28, 3) := by decide +kernel
theorem dC_read_4 : decode cC_read 4 = .ok (.invokevirtual 140, 3) := by decide +kernel
theorem dC_read_7 : decode cC_read 7 = .ok (.ifCond .ne 5, 3) := by decide +kernel
theorem dC_read_10 : decode cC_read 10 = .ok (.iconst 0, 1) := by decide +kernel
theorem dC_read_11 : decode cC_read 11 = .ok (.ireturn, 1) := by decide +kernel
theorem dC_read_12 : decode cC_read 12 = .ok (.aload_n 0, 1) := by decide +kernel
theorem dC_read_13 : decode cC_read 13 = .ok (.getfield 10, 3) := by decide +kernel
theorem dC_read_16 : decode cC_read 16 = .ok (.aload_n 0, 1) := by decide +kernel
theorem dC_read_17 : decode cC_read 17 = .ok (.getfield 28, 3) := by decide +kernel
theorem dC_read_20 : decode cC_read 20 = .ok (.getfield 150, 3) := by decide +kernel
theorem dC_read_23 : decode cC_read 23 = .ok (.invokevirtual 153, 3) := by decide +kernel
theorem dC_read_26 : decode cC_read 26 = .ok (.iconst 1, 1) := by decide +kernel
theorem dC_read_27 : decode cC_read 27 = .ok (.ireturn, 1) := by decide +kernel
theorem dC_size_0 : decode cC_size 0 = .ok (.iload_n 1, 1) := by decide +kernel
theorem dC_size_1 : decode cC_size 1 = .ok (.invokestatic 64, 3) := by decide +kernel
theorem dC_size_4 : decode cC_size 4 = .ok (.istore_n 2, 1) := by decide +kernel
theorem dC_size_5 : decode cC_size 5 = .ok (.aload_n 0, 1) := by decide +kernel
theorem dC_size_6 : decode cC_size 6 = .ok (.getfield 10, 3) := by decide +kernel
theorem dC_size_9 : decode cC_size 9 = .ok (.iload_n 2, 1) := by decide +kernel
theorem dC_size_10 : decode cC_size 10 = .ok (.invokevirtual 85, 3) := by decide +kernel
theorem dC_size_13 : decode cC_size 13 = .ok (.ifCond .eq 15, 3) := by decide +kernel
theorem dC_size_16 : decode cC_size 16 = .ok (.aload_n 0, 1) := by decide +kernel
theorem dC_size_17 : decode cC_size 17 = .ok (.getfield 10, 3) := by decide +kernel
theorem dC_size_20 : decode cC_size 20 = .ok (.getfield 89, 3) := by decide +kernel
theorem dC_size_23 : decode cC_size 23 = .ok (.iload_n 2, 1) := by decide +kernel
theorem dC_size_24 : decode cC_size 24 = .ok (.iaload, 1) := by decide +kernel
theorem dC_size_25 : decode cC_size 25 = .ok (.goto 4, 3) := by decide +kernel
theorem dC_size_28 : decode cC_size 28 = .ok (.iconst (-1), 1) := by decide +kernel
theorem dC_size_29 : decode cC_size 29 = .ok (.ireturn, 1) := by decide +kernel
theorem dC_spoil_0 : decode cC_spoil 0 = .ok (.iload_n 1, 1) := by decide +kernel
theorem dC_spoil_1 : decode cC_spoil 1 = .ok (.ifCond .lt 25, 3) := by decide +kernel
theorem dC_spoil_4 : decode cC_spoil 4 = .ok (.iload_n 1, 1) := by decide +kernel
theorem dC_spoil_5 : decode cC_spoil 5 = .ok (.aload_n 0, 1) := by decide +kernel
theorem dC_spoil_6 : decode cC_spoil 6 = .ok (.getfield 19, 3) := by decide +kernel
theorem dC_spoil_9 : decode cC_spoil 9 = .ok (.getfield 116, 3) := by decide +kernel
theorem dC_spoil_12 : decode cC_spoil 12 = .ok (.if_icmp .ge 14, 3) := by decide +kernel
theorem dC_spoil_15 : decode cC_spoil 15 = .ok (.iload_n 2, 1) := by decide +kernel
theorem dC_spoil_16 : decode cC_spoil 16 = .ok (.ifCond .lt 10, 3) := by decide +kernel
theorem dC_spoil_19 : decode cC_spoil 19 = .ok (.iload_n 2, 1) := by decide +kernel
theorem dC_spoil_20 : decode cC_spoil 20 = .ok (.sipush 255, 3) := by decide +kernel
theorem dC_spoil_23 : decode cC_spoil 23 = .ok (.if_icmp .le 13, 3) := by decide +kernel
theorem dC_spoil_26 : decode cC_spoil 26 = .ok (.new 32, 3) := by decide +kernel
theorem dC_spoil_29 : decode cC_spoil 29 = .ok (.dup, 1) := by decide +kernel
theorem dC_spoil_30 : decode cC_spoil 30 = .ok (.ldc 129, 2) := by decide +kernel
theorem dC_spoil_32 : decode cC_spoil 32 = .ok (.invokespecial 36, 3) := by decide +kernel
theorem dC_spoil_35 : decode cC_spoil 35 = .ok (.athrow, 1) := by decide +kernel
theorem dC_spoil_36 : decode cC_spoil 36 = .ok (.aload_n 0, 1) := by decide +kernel
theorem dC_spoil_37 : decode cC_spoil 37 = .ok (.getfield 19, 3) := by decide +kernel
theorem dC_spoil_40 : decode cC_spoil 40 = .ok (.iload_n 1, 1) := by decide +kernel
theorem dC_spoil_41 : decode cC_spoil 41 = .ok (.iload_n 2, 1) := by decide +kernel
theorem dC_spoil_42 : decode cC_spoil 42 = .ok (.invokevirtual 131, 3) := by decide +kernel
theorem dC_spoil_45 : decode cC_spoil 45 = .ok (.aload_n 0, 1) := by decide +kernel
theorem dC_spoil_46 : decode cC_spoil 46 = .ok (.getfield 19, 3) := by decide +kernel
theorem dC_spoil_49 : decode cC_spoil 49 = .ok (.iload_n 1, 1) := by decide +kernel
theorem dC_spoil_50 : decode cC_spoil 50 = .ok (.invokevirtual 135, 3) := by decide +kernel
theorem dC_spoil_53 : decode cC_spoil 53 = .ok (.ireturn, 1) := by decide +kernel
theorem dC_trim_0 : decode cC_trim 0 = .ok (.iload_n 1, 1) := by decide +kernel
theorem dC_trim_1 : decode cC_trim 1 = .ok (.ifCond .lt 14, 3) := by decide +kernel
theorem dC_trim_4 : decode cC_trim 4 = .ok (.iload_n 1, 1) := by decide +kernel
theorem dC_trim_5 : decode cC_trim 5 = .ok (.aload_n 0, 1) := by decide +kernel
theorem dC_trim_6 : decode cC_trim 6 = .ok (.getfield 19, 3) := by decide +kernel
theorem dC_trim_9 : decode cC_trim 9 = .ok (.getfield 116, 3) := by decide +kernel
theorem dC_trim_12 : decode cC_trim 12 = .ok (.if_icmp .le 13, 3) := by decide +kernel
theorem dC_trim_15 : decode cC_trim 15 = .ok (.new 32, 3) := by decide +kernel
theorem dC_trim_18 : decode cC_trim 18 = .ok (.dup, 1) := by decide +kernel
theorem dC_trim_19 : decode cC_trim 19 = .ok (.ldc 127, 2) := by decide +kernel
theorem dC_trim_21 : decode cC_trim 21 = .ok (.invokespecial 36, 3) := by decide +kernel
theorem dC_trim_24 : decode cC_trim 24 = .ok (.athrow, 1) := by decide +kernel
theorem dC_trim_25 : decode cC_trim 25 = .ok (.aload_n 0, 1) := by decide +kernel
theorem dC_trim_26 : decode cC_trim 26 = .ok (.getfield 19, 3) := by decide +kernel
theorem dC_trim_29 : decode cC_trim 29 = .ok (.dup, 1) := by decide +kernel
theorem dC_trim_30 : decode cC_trim 30 = .ok (.getfield 116, 3) := by decide +kernel
theorem dC_trim_33 : decode cC_trim 33 = .ok (.iload_n 1, 1) := by decide +kernel
theorem dC_trim_34 : decode cC_trim 34 = .ok (.isub, 1) := by decide +kernel
theorem dC_trim_35 : decode cC_trim 35 = .ok (.putfield 116, 3) := by decide +kernel
theorem dC_trim_38 : decode cC_trim 38 = .ok (.aload_n 0, 1) := by decide +kernel
theorem dC_trim_39 : decode cC_trim 39 = .ok (.getfield 19, 3) := by decide +kernel
theorem dC_trim_42 : decode cC_trim 42 = .ok (.getfield 116, 3) := by decide +kernel
theorem dC_trim_45 : decode cC_trim 45 = .ok (.ireturn, 1) := by decide +kernel
theorem dC_type_0 : decode cC_type 0 = .ok (.aload_n 0, 1) := by decide +kernel
theorem dC_type_1 : decode cC_type 1 = .ok (.getfield 10, 3) := by decide +kernel
theorem dC_type_4 : decode cC_type 4 = .ok (.getfield 92, 3) := by decide +kernel
theorem dC_type_7 : decode cC_type 7 = .ok (.ireturn, 1) := by decide +kernel
