theorem dD_become_0 : decode cD_become 0 = .ok (.aload_n 0, 1) := by decide +kernel
theorem dD_become_1 : decode cD_become 1 = .ok (.aload_n 1, 1) := by decide +kernel
theorem dD_become_2 : decode cD_become 2 = .ok (.getfield 9, 3) := by decide +kernel
theorem dD_become_5 : decode cD_become 5 = .ok (.putfield 9, 3) := by decide +kernel
theorem dD_become_8 : decode cD_become 8 = .ok (.aload_n 1, 1) := by decide +kernel
theorem dD_become_9 : decode cD_become 9 = .ok (.getfield 15, 3) := by decide +kernel
theorem dD_become_12 : decode cD_become 12 = .ok (.iconst 0, 1) := by decide +kernel
theorem dD_become_13 : decode cD_become 13 = .ok (.aload_n 0, 1) := by decide +kernel
theorem dD_become_14 : decode cD_become 14 = .ok (.getfield 15, 3) := by decide +kernel
theorem dD_become_17 : decode cD_become 17 = .ok (.iconst 0, 1) := by decide +kernel
theorem dD_become_18 : decode cD_become 18 = .ok (.bipush 16, 2) := by decide +kernel
theorem dD_become_20 : decode cD_become 20 = .ok (.invokestatic 23, 3) := by decide +kernel
theorem dD_become_23 : decode cD_become 23 = .ok (.aload_n 1, 1) := by decide +kernel
theorem dD_become_24 : decode cD_become 24 = .ok (.getfield 19, 3) := by decide +kernel
theorem dD_become_27 : decode cD_become 27 = .ok (.iconst 0, 1) := by decide +kernel
theorem dD_become_28 : decode cD_become 28 = .ok (.aload_n 0, 1) := by decide +kernel
theorem dD_become_29 : decode cD_become 29 = .ok (.getfield 19, 3) := by decide +kernel
theorem dD_become_32 : decode cD_become 32 = .ok (.iconst 0, 1) := by decide +kernel
theorem dD_become_33 : decode cD_become 33 = .ok (.sipush 208, 3) := by decide +kernel
theorem dD_become_36 : decode cD_become 36 = .ok (.invokestatic 23, 3) := by decide +kernel
theorem dD_become_39 : decode cD_become 39 = .ok (.return_, 1) := by decide +kernel
theorem dD_fieldCount_0 : decode cD_fieldCount 0 = .ok (.iconst 0, 1) := by decide +kernel
theorem dD_fieldCount_1 : decode cD_fieldCount 1 = .ok (.istore_n 1, 1) := by decide +kernel
theorem dD_fieldCount_2 : decode cD_fieldCount 2 = .ok (.iconst 0, 1) := by decide +kernel
theorem dD_fieldCount_3 : decode cD_fieldCount 3 = .ok (.istore_n 2, 1) := by decide +kernel
theorem dD_fieldCount_4 : decode cD_fieldCount 4 = .ok (.iload_n 2, 1) := by decide +kernel
theorem dD_fieldCount_5 : decode cD_fieldCount 5 = .ok (.bipush 16, 2) := by decide +kernel
theorem dD_fieldCount_7 : decode cD_fieldCount 7 = .ok (.if_icmp .ge 20, 3) := by decide +kernel
theorem dD_fieldCount_10 : decode cD_fieldCount 10 = .ok (.aload_n 0, 1) := by decide +kernel
theorem dD_fieldCount_11 : decode cD_fieldCount 11 = .ok (.iload_n 2, 1) := by decide +kernel
theorem dD_fieldCount_12 : decode cD_fieldCount 12 = .ok (.invokevirtual 29, 3) := by decide +kernel
theorem dD_fieldCount_15 : decode cD_fieldCount 15 = .ok (.ifCond .eq 6, 3) := by decide +kernel
theorem dD_fieldCount_18 : decode cD_fieldCount 18 = .ok (.iinc 1 1, 3) := by decide +kernel
theorem dD_fieldCount_21 : decode cD_fieldCount 21 = .ok (.iinc 2 1, 3) := by decide +kernel
theorem dD_fieldCount_24 : decode cD_fieldCount 24 = .ok (.goto (-20), 3) := by decide +kernel
theorem dD_fieldCount_27 : decode cD_fieldCount 27 = .ok (.iload_n 1, 1) := by decide +kernel
theorem dD_fieldCount_28 : decode cD_fieldCount 28 = .ok (.ireturn, 1) := by decide +kernel
theorem dD_has_0 : decode cD_has 0 = .ok (.aload_n 0, 1) := by decide +kernel
theorem dD_has_1 : decode cD_has 1 = .ok (.getfield 15, 3) := by decide +kernel
theorem dD_has_4 : decode cD_has 4 = .ok (.iload_n 1, 1) := by decide +kernel
theorem dD_has_5 : decode cD_has 5 = .ok (.iaload, 1) := by decide +kernel
theorem dD_has_6 : decode cD_has 6 = .ok (.ifCond .eq 7, 3) := by decide +kernel
theorem dD_has_9 : decode cD_has 9 = .ok (.iconst 1, 1) := by decide +kernel
theorem dD_has_10 : decode cD_has 10 = .ok (.goto 4, 3) := by decide +kernel
theorem dD_has_13 : decode cD_has 13 = .ok (.iconst 0, 1) := by decide +kernel
theorem dD_has_14 : decode cD_has 14 = .ok (.ireturn, 1) := by decide +kernel
theorem dD_init_0 : decode cD_init 0 = .ok (.aload_n 0, 1) := by decide +kernel
theorem dD_init_1 : decode cD_init 1 = .ok (.invokespecial 3, 3) := by decide +kernel
theorem dD_init_4 : decode cD_init 4 = .ok (.aload_n 0, 1) := by decide +kernel
theorem dD_init_5 : decode cD_init 5 = .ok (.sipush 800, 3) := by decide +kernel
theorem dD_init_8 : decode cD_init 8 = .ok (.putfield 9, 3) := by decide +kernel
theorem dD_init_11 : decode cD_init 11 = .ok (.aload_n 0, 1) := by decide +kernel
theorem dD_init_12 : decode cD_init 12 = .ok (.bipush 16, 2) := by decide +kernel
theorem dD_init_14 : decode cD_init 14 = .ok (.newarray .int, 2) := by decide +kernel
theorem dD_init_16 : decode cD_init 16 = .ok (.putfield 15, 3) := by decide +kernel
theorem dD_init_19 : decode cD_init 19 = .ok (.aload_n 0, 1) := by decide +kernel
theorem dD_init_20 : decode cD_init 20 = .ok (.sipush 208, 3) := by decide +kernel
theorem dD_init_23 : decode cD_init 23 = .ok (.newarray .byte, 2) := by decide +kernel
theorem dD_init_25 : decode cD_init 25 = .ok (.putfield 19, 3) := by decide +kernel
theorem dD_init_28 : decode cD_init 28 = .ok (.return_, 1) := by decide +kernel
theorem dD_lastDigits_0 : decode cD_lastDigits 0 = .ok (.aload_n 0, 1) := by decide +kernel
theorem dD_lastDigits_1 : decode cD_lastDigits 1 = .ok (.getfield 15, 3) := by decide +kernel
theorem dD_lastDigits_4 : decode cD_lastDigits 4 = .ok (.iload_n 1, 1) := by decide +kernel
theorem dD_lastDigits_5 : decode cD_lastDigits 5 = .ok (.iaload, 1) := by decide +kernel
theorem dD_lastDigits_6 : decode cD_lastDigits 6 = .ok (.istore_n 2, 1) := by decide +kernel
theorem dD_lastDigits_7 : decode cD_lastDigits 7 = .ok (.lconst 0, 1) := by decide +kernel
theorem dD_lastDigits_8 : decode cD_lastDigits 8 = .ok (.lstore_n 3, 1) := by decide +kernel
theorem dD_lastDigits_9 : decode cD_lastDigits 9 = .ok (.iconst 0, 1) := by decide +kernel
theorem dD_lastDigits_10 : decode cD_lastDigits 10 = .ok (.iload_n 2, 1) := by decide +kernel
theorem dD_lastDigits_11 : decode cD_lastDigits 11 = .ok (.bipush 18, 2) := by decide +kernel
theorem dD_lastDigits_13 : decode cD_lastDigits 13 = .ok (.isub, 1) := by decide +kernel
theorem dD_lastDigits_14 : decode cD_lastDigits 14 = .ok (.invokestatic 47, 3) := by decide +kernel
theorem dD_lastDigits_17 : decode cD_lastDigits 17 = .ok (.istore 5, 2) := by decide +kernel
theorem dD_lastDigits_19 : decode cD_lastDigits 19 = .ok (.iload 5, 2) := by decide +kernel
theorem dD_lastDigits_21 : decode cD_lastDigits 21 = .ok (.iload_n 2, 1) := by decide +kernel
theorem dD_lastDigits_22 : decode cD_lastDigits 22 = .ok (.if_icmp .ge 24, 3) := by decide +kernel
theorem dD_lastDigits_25 : decode cD_lastDigits 25 = .ok (.lload_n 3, 1) := by decide +kernel
theorem dD_lastDigits_26 : decode cD_lastDigits 26 = .ok (.ldc2_w 53, 3) := by decide +kernel
theorem dD_lastDigits_29 : decode cD_lastDigits 29 = .ok (.lmul, 1) := by decide +kernel
theorem dD_lastDigits_30 : decode cD_lastDigits 30 = .ok (.aload_n 0, 1) := by decide +kernel
theorem dD_lastDigits_31 : decode cD_lastDigits 31 = .ok (.iload_n 1, 1) := by decide +kernel
theorem dD_lastDigits_32 : decode cD_lastDigits 32 = .ok (.iload 5, 2) := by decide +kernel
theorem dD_lastDigits_34 : decode cD_lastDigits 34 = .ok (.invokevirtual 55, 3) := by decide +kernel
theorem dD_lastDigits_37 : decode cD_lastDigits 37 = .ok (.i2l, 1) := by decide +kernel
theorem dD_lastDigits_38 : decode cD_lastDigits 38 = .ok (.ladd, 1) := by decide +kernel
theorem dD_lastDigits_39 : decode cD_lastDigits 39 = .ok (.lstore_n 3, 1) := by decide +kernel
theorem dD_lastDigits_40 : decode cD_lastDigits 40 = .ok (.iinc 5 1, 3) := by decide +kernel
theorem dD_lastDigits_43 : decode cD_lastDigits 43 = .ok (.goto (-24), 3) := by decide +kernel
theorem dD_lastDigits_46 : decode cD_lastDigits 46 = .ok (.lload_n 3, 1) := by decide +kernel
theorem dD_lastDigits_47 : decode cD_lastDigits 47 = .ok (.lreturn, 1) := by decide +kernel
theorem dD_mark_0 : decode cD_mark 0 = .ok (.aload_n 0, 1) := by decide +kernel
theorem dD_mark_1 : decode cD_mark 1 = .ok (.getfield 19, 3) := by decide +kernel
theorem dD_mark_4 : decode cD_mark 4 = .ok (.getstatic 33, 3) := by decide +kernel
theorem dD_mark_7 : decode cD_mark 7 = .ok (.iload_n 1, 1) := by decide +kernel
theorem dD_mark_8 : decode cD_mark 8 = .ok (.iaload, 1) := by decide +kernel
theorem dD_mark_9 : decode cD_mark 9 = .ok (.iload_n 2, 1) := by decide +kernel
theorem dD_mark_10 : decode cD_mark 10 = .ok (.iadd, 1) := by decide +kernel
theorem dD_mark_11 : decode cD_mark 11 = .ok (.baload, 1) := by decide +kernel
theorem dD_mark_12 : decode cD_mark 12 = .ok (.ireturn, 1) := by decide +kernel
theorem dD_putLetters_0 : decode cD_putLetters 0 = .ok (.iconst 0, 1) := by decide +kernel
theorem dD_putLetters_1 : decode cD_putLetters 1 = .ok (.istore 5, 2) := by decide +kernel
theorem dD_putLetters_3 : decode cD_putLetters 3 = .ok (.iload 5, 2) := by decide +kernel
theorem dD_putLetters_5 : decode cD_putLetters 5 = .ok (.iload_n 2, 1) := by decide +kernel
theorem dD_putLetters_6 : decode cD_putLetters 6 = .ok (.if_icmp .ge 54, 3) := by decide +kernel
theorem dD_putLetters_9 : decode cD_putLetters 9 = .ok (.lload_n 3, 1) := by decide +kernel
theorem dD_putLetters_10 : decode cD_putLetters 10 = .ok (.iconst 5, 1) := by decide +kernel
theorem dD_putLetters_11 : decode cD_putLetters 11 = .ok (.iload 5, 2) := by decide +kernel
theorem dD_putLetters_13 : decode cD_putLetters 13 = .ok (.bipush 12, 2) := by decide +kernel
theorem dD_putLetters_15 : decode cD_putLetters 15 = .ok (.irem, 1) := by decide +kernel
theorem dD_putLetters_16 : decode cD_putLetters 16 = .ok (.imul, 1) := by decide +kernel
theorem dD_putLetters_17 : decode cD_putLetters 17 = .ok (.lshr, 1) := by decide +kernel
theorem dD_putLetters_18 : decode cD_putLetters 18 = .ok (.l2i, 1) := by decide +kernel
theorem dD_putLetters_19 : decode cD_putLetters 19 = .ok (.bipush 31, 2) := by decide +kernel
theorem dD_putLetters_21 : decode cD_putLetters 21 = .ok (.iand, 1) := by decide +kernel
theorem dD_putLetters_22 : decode cD_putLetters 22 = .ok (.istore 6, 2) := by decide +kernel
theorem dD_putLetters_24 : decode cD_putLetters 24 = .ok (.aload_n 0, 1) := by decide +kernel
theorem dD_putLetters_25 : decode cD_putLetters 25 = .ok (.iload_n 1, 1) := by decide +kernel
theorem dD_putLetters_26 : decode cD_putLetters 26 = .ok (.iload 5, 2) := by decide +kernel
theorem dD_putLetters_28 : decode cD_putLetters 28 = .ok (.iload 6, 2) := by decide +kernel
theorem dD_putLetters_30 : decode cD_putLetters 30 = .ok (.bipush 10, 2) := by decide +kernel
theorem dD_putLetters_32 : decode cD_putLetters 32 = .ok (.if_icmp .ge 11, 3) := by decide +kernel
theorem dD_putLetters_35 : decode cD_putLetters 35 = .ok (.bipush 48, 2) := by decide +kernel
theorem dD_putLetters_37 : decode cD_putLetters 37 = .ok (.iload 6, 2) := by decide +kernel
theorem dD_putLetters_39 : decode cD_putLetters 39 = .ok (.iadd, 1) := by decide +kernel
theorem dD_putLetters_40 : decode cD_putLetters 40 = .ok (.goto 11, 3) := by decide +kernel
theorem dD_putLetters_43 : decode cD_putLetters 43 = .ok (.bipush 65, 2) := by decide +kernel
theorem dD_putLetters_45 : decode cD_putLetters 45 = .ok (.iload 6, 2) := by decide +kernel
theorem dD_putLetters_47 : decode cD_putLetters 47 = .ok (.iadd, 1) := by decide +kernel
theorem dD_putLetters_48 : decode cD_putLetters 48 = .ok (.bipush 10, 2) := by decide +kernel
theorem dD_putLetters_50 : decode cD_putLetters 50 = .ok (.isub, 1) := by decide +kernel
theorem dD_putLetters_51 : decode cD_putLetters 51 = .ok (.invokevirtual 43, 3) := by decide +kernel
theorem dD_putLetters_54 : decode cD_putLetters 54 = .ok (.iinc 5 1, 3) := by decide +kernel
theorem dD_putLetters_57 : decode cD_putLetters 57 = .ok (.goto (-54), 3) := by decide +kernel
theorem dD_putLetters_60 : decode cD_putLetters 60 = .ok (.aload_n 0, 1) := by decide +kernel
theorem dD_putLetters_61 : decode cD_putLetters 61 = .ok (.getfield 15, 3) := by decide +kernel
theorem dD_putLetters_64 : decode cD_putLetters 64 = .ok (.iload_n 1, 1) := by decide +kernel
theorem dD_putLetters_65 : decode cD_putLetters 65 = .ok (.iload_n 2, 1) := by decide +kernel
theorem dD_putLetters_66 : decode cD_putLetters 66 = .ok (.iastore, 1) := by decide +kernel
theorem dD_putLetters_67 : decode cD_putLetters 67 = .ok (.return_, 1) := by decide +kernel
theorem dD_putNumber_0 : decode cD_putNumber 0 = .ok (.aload_n 0, 1) := by decide +kernel
theorem dD_putNumber_1 : decode cD_putNumber 1 = .ok (.iload_n 1, 1) := by decide +kernel
theorem dD_putNumber_2 : decode cD_putNumber 2 = .ok (.iconst 0, 1) := by decide +kernel
theorem dD_putNumber_3 : decode cD_putNumber 3 = .ok (.iload_n 2, 1) := by decide +kernel
theorem dD_putNumber_4 : decode cD_putNumber 4 = .ok (.lload_n 3, 1) := by decide +kernel
theorem dD_putNumber_5 : decode cD_putNumber 5 = .ok (.invokevirtual 36, 3) := by decide +kernel
theorem dD_putNumber_8 : decode cD_putNumber 8 = .ok (.aload_n 0, 1) := by decide +kernel
theorem dD_putNumber_9 : decode cD_putNumber 9 = .ok (.getfield 15, 3) := by decide +kernel
theorem dD_putNumber_12 : decode cD_putNumber 12 = .ok (.iload_n 1, 1) := by decide +kernel
theorem dD_putNumber_13 : decode cD_putNumber 13 = .ok (.iload_n 2, 1) := by decide +kernel
theorem dD_putNumber_14 : decode cD_putNumber 14 = .ok (.iastore, 1) := by decide +kernel
theorem dD_putNumber_15 : decode cD_putNumber 15 = .ok (.return_, 1) := by decide +kernel
theorem dD_putOriginal_0 : decode cD_putOriginal 0 = .ok (.aload_n 0, 1) := by decide +kernel
theorem dD_putOriginal_1 : decode cD_putOriginal 1 = .ok (.bipush 14, 2) := by decide +kernel
theorem dD_putOriginal_3 : decode cD_putOriginal 3 = .ok (.iconst 0, 1) := by decide +kernel
theorem dD_putOriginal_4 : decode cD_putOriginal 4 = .ok (.iconst 4, 1) := by decide +kernel
theorem dD_putOriginal_5 : decode cD_putOriginal 5 = .ok (.iload_n 1, 1) := by decide +kernel
theorem dD_putOriginal_6 : decode cD_putOriginal 6 = .ok (.i2l, 1) := by decide +kernel
theorem dD_putOriginal_7 : decode cD_putOriginal 7 = .ok (.invokevirtual 36, 3) := by decide +kernel
theorem dD_putOriginal_10 : decode cD_putOriginal 10 = .ok (.aload_n 0, 1) := by decide +kernel
theorem dD_putOriginal_11 : decode cD_putOriginal 11 = .ok (.bipush 14, 2) := by decide +kernel
theorem dD_putOriginal_13 : decode cD_putOriginal 13 = .ok (.iconst 4, 1) := by decide +kernel
theorem dD_putOriginal_14 : decode cD_putOriginal 14 = .ok (.bipush 6, 2) := by decide +kernel
theorem dD_putOriginal_16 : decode cD_putOriginal 16 = .ok (.iload_n 2, 1) := by decide +kernel
theorem dD_putOriginal_17 : decode cD_putOriginal 17 = .ok (.i2l, 1) := by decide +kernel
theorem dD_putOriginal_18 : decode cD_putOriginal 18 = .ok (.invokevirtual 36, 3) := by decide +kernel
theorem dD_putOriginal_21 : decode cD_putOriginal 21 = .ok (.aload_n 0, 1) := by decide +kernel
theorem dD_putOriginal_22 : decode cD_putOriginal 22 = .ok (.bipush 14, 2) := by decide +kernel
theorem dD_putOriginal_24 : decode cD_putOriginal 24 = .ok (.bipush 10, 2) := by decide +kernel
theorem dD_putOriginal_26 : decode cD_putOriginal 26 = .ok (.bipush 10, 2) := by decide +kernel
theorem dD_putOriginal_28 : decode cD_putOriginal 28 = .ok (.lconst 0, 1) := by decide +kernel
theorem dD_putOriginal_29 : decode cD_putOriginal 29 = .ok (.invokevirtual 36, 3) := by decide +kernel
theorem dD_putOriginal_32 : decode cD_putOriginal 32 = .ok (.aload_n 0, 1) := by decide +kernel
theorem dD_putOriginal_33 : decode cD_putOriginal 33 = .ok (.bipush 14, 2) := by decide +kernel
theorem dD_putOriginal_35 : decode cD_putOriginal 35 = .ok (.bipush 20, 2) := by decide +kernel
theorem dD_putOriginal_37 : decode cD_putOriginal 37 = .ok (.bipush 11, 2) := by decide +kernel
theorem dD_putOriginal_39 : decode cD_putOriginal 39 = .ok (.iload_n 3, 1) := by decide +kernel
theorem dD_putOriginal_40 : decode cD_putOriginal 40 = .ok (.i2l, 1) := by decide +kernel
theorem dD_putOriginal_41 : decode cD_putOriginal 41 = .ok (.invokevirtual 36, 3) := by decide +kernel
theorem dD_putOriginal_44 : decode cD_putOriginal 44 = .ok (.aload_n 0, 1) := by decide +kernel
theorem dD_putOriginal_45 : decode cD_putOriginal 45 = .ok (.bipush 14, 2) := by decide +kernel
theorem dD_putOriginal_47 : decode cD_putOriginal 47 = .ok (.bipush 31, 2) := by decide +kernel
theorem dD_putOriginal_49 : decode cD_putOriginal 49 = .ok (.bipush 11, 2) := by decide +kernel
theorem dD_putOriginal_51 : decode cD_putOriginal 51 = .ok (.lconst 0, 1) := by decide +kernel
theorem dD_putOriginal_52 : decode cD_putOriginal 52 = .ok (.invokevirtual 36, 3) := by decide +kernel
theorem dD_putOriginal_55 : decode cD_putOriginal 55 = .ok (.aload_n 0, 1) := by decide +kernel
theorem dD_putOriginal_56 : decode cD_putOriginal 56 = .ok (.getfield 15, 3) := by decide +kernel
theorem dD_putOriginal_59 : decode cD_putOriginal 59 = .ok (.bipush 14, 2) := by decide +kernel
theorem dD_putOriginal_61 : decode cD_putOriginal 61 = .ok (.getstatic 40, 3) := by decide +kernel
theorem dD_putOriginal_64 : decode cD_putOriginal 64 = .ok (.bipush 14, 2) := by decide +kernel
theorem dD_putOriginal_66 : decode cD_putOriginal 66 = .ok (.iaload, 1) := by decide +kernel
theorem dD_putOriginal_67 : decode cD_putOriginal 67 = .ok (.iastore, 1) := by decide +kernel
theorem dD_putOriginal_68 : decode cD_putOriginal 68 = .ok (.return_, 1) := by decide +kernel
theorem dD_restart_0 : decode cD_restart 0 = .ok (.aload_n 0, 1) := by decide +kernel
theorem dD_restart_1 : decode cD_restart 1 = .ok (.iload_n 1, 1) := by decide +kernel
theorem dD_restart_2 : decode cD_restart 2 = .ok (.putfield 9, 3) := by decide +kernel
theorem dD_restart_5 : decode cD_restart 5 = .ok (.iconst 0, 1) := by decide +kernel
theorem dD_restart_6 : decode cD_restart 6 = .ok (.istore_n 2, 1) := by decide +kernel
theorem dD_restart_7 : decode cD_restart 7 = .ok (.iload_n 2, 1) := by decide +kernel
theorem dD_restart_8 : decode cD_restart 8 = .ok (.bipush 16, 2) := by decide +kernel
theorem dD_restart_10 : decode cD_restart 10 = .ok (.if_icmp .ge 16, 3) := by decide +kernel
theorem dD_restart_13 : decode cD_restart 13 = .ok (.aload_n 0, 1) := by decide +kernel
theorem dD_restart_14 : decode cD_restart 14 = .ok (.getfield 15, 3) := by decide +kernel
theorem dD_restart_17 : decode cD_restart 17 = .ok (.iload_n 2, 1) := by decide +kernel
theorem dD_restart_18 : decode cD_restart 18 = .ok (.iconst 0, 1) := by decide +kernel
theorem dD_restart_19 : decode cD_restart 19 = .ok (.iastore, 1) := by decide +kernel
theorem dD_restart_20 : decode cD_restart 20 = .ok (.iinc 2 1, 3) := by decide +kernel
theorem dD_restart_23 : decode cD_restart 23 = .ok (.goto (-16), 3) := by decide +kernel
theorem dD_restart_26 : decode cD_restart 26 = .ok (.return_, 1) := by decide +kernel
theorem dD_setDigits_0 : decode cD_setDigits 0 = .ok (.lload 4, 2) := by decide +kernel
theorem dD_setDigits_2 : decode cD_setDigits 2 = .ok (.lstore 6, 2) := by decide +kernel
theorem dD_setDigits_4 : decode cD_setDigits 4 = .ok (.iload_n 2, 1) := by decide +kernel
theorem dD_setDigits_5 : decode cD_setDigits 5 = .ok (.iload_n 3, 1) := by decide +kernel
theorem dD_setDigits_6 : decode cD_setDigits 6 = .ok (.iadd, 1) := by decide +kernel
theorem dD_setDigits_7 : decode cD_setDigits 7 = .ok (.iconst 1, 1) := by decide +kernel
theorem dD_setDigits_8 : decode cD_setDigits 8 = .ok (.isub, 1) := by decide +kernel
theorem dD_setDigits_9 : decode cD_setDigits 9 = .ok (.istore 8, 2) := by decide +kernel
theorem dD_setDigits_11 : decode cD_setDigits 11 = .ok (.iload 8, 2) := by decide +kernel
theorem dD_setDigits_13 : decode cD_setDigits 13 = .ok (.iload_n 2, 1) := by decide +kernel
theorem dD_setDigits_14 : decode cD_setDigits 14 = .ok (.if_icmp .lt 31, 3) := by decide +kernel
theorem dD_setDigits_17 : decode cD_setDigits 17 = .ok (.aload_n 0, 1) := by decide +kernel
theorem dD_setDigits_18 : decode cD_setDigits 18 = .ok (.iload_n 1, 1) := by decide +kernel
theorem dD_setDigits_19 : decode cD_setDigits 19 = .ok (.iload 8, 2) := by decide +kernel
theorem dD_setDigits_21 : decode cD_setDigits 21 = .ok (.lload 6, 2) := by decide +kernel
theorem dD_setDigits_23 : decode cD_setDigits 23 = .ok (.ldc2_w 53, 3) := by decide +kernel
theorem dD_setDigits_26 : decode cD_setDigits 26 = .ok (.lrem, 1) := by decide +kernel
theorem dD_setDigits_27 : decode cD_setDigits 27 = .ok (.l2i, 1) := by decide +kernel
theorem dD_setDigits_28 : decode cD_setDigits 28 = .ok (.invokevirtual 43, 3) := by decide +kernel
theorem dD_setDigits_31 : decode cD_setDigits 31 = .ok (.lload 6, 2) := by decide +kernel
theorem dD_setDigits_33 : decode cD_setDigits 33 = .ok (.ldc2_w 53, 3) := by decide +kernel
theorem dD_setDigits_36 : decode cD_setDigits 36 = .ok (.ldiv, 1) := by decide +kernel
theorem dD_setDigits_37 : decode cD_setDigits 37 = .ok (.lstore 6, 2) := by decide +kernel
theorem dD_setDigits_39 : decode cD_setDigits 39 = .ok (.iinc 8 (-1), 3) := by decide +kernel
theorem dD_setDigits_42 : decode cD_setDigits 42 = .ok (.goto (-31), 3) := by decide +kernel
theorem dD_setDigits_45 : decode cD_setDigits 45 = .ok (.return_, 1) := by decide +kernel
theorem dD_setMark_0 : decode cD_setMark 0 = .ok (.aload_n 0, 1) := by decide +kernel
theorem dD_setMark_1 : decode cD_setMark 1 = .ok (.getfield 19, 3) := by decide +kernel
theorem dD_setMark_4 : decode cD_setMark 4 = .ok (.getstatic 33, 3) := by decide +kernel
theorem dD_setMark_7 : decode cD_setMark 7 = .ok (.iload_n 1, 1) := by decide +kernel
theorem dD_setMark_8 : decode cD_setMark 8 = .ok (.iaload, 1) := by decide +kernel
theorem dD_setMark_9 : decode cD_setMark 9 = .ok (.iload_n 2, 1) := by decide +kernel
theorem dD_setMark_10 : decode cD_setMark 10 = .ok (.iadd, 1) := by decide +kernel
theorem dD_setMark_11 : decode cD_setMark 11 = .ok (.iload_n 3, 1) := by decide +kernel
theorem dD_setMark_12 : decode cD_setMark 12 = .ok (.i2b, 1) := by decide +kernel
theorem dD_setMark_13 : decode cD_setMark 13 = .ok (.bastore, 1) := by decide +kernel
theorem dD_setMark_14 : decode cD_setMark 14 = .ok (.return_, 1) := by decide +kernel
theorem dR_areDigits_0 : decode cR_areDigits 0 = .ok (.aload_n 0, 1) := by decide +kernel
theorem dR_areDigits_1 : decode cR_areDigits 1 = .ok (.iload_n 1, 1) := by decide +kernel
theorem dR_areDigits_2 : decode cR_areDigits 2 = .ok (.invokestatic 110, 3) := by decide +kernel
theorem dR_areDigits_5 : decode cR_areDigits 5 = .ok (.invokevirtual 79, 3) := by decide +kernel
theorem dR_areDigits_8 : decode cR_areDigits 8 = .ok (.ifCond .ne 5, 3) := by decide +kernel
theorem dR_areDigits_11 : decode cR_areDigits 11 = .ok (.iconst 0, 1) := by decide +kernel
theorem dR_areDigits_12 : decode cR_areDigits 12 = .ok (.ireturn, 1) := by decide +kernel
theorem dR_areDigits_13 : decode cR_areDigits 13 = .ok (.iload_n 1, 1) := by decide +kernel
theorem dR_areDigits_14 : decode cR_areDigits 14 = .ok (.iconst 2, 1) := by decide +kernel
theorem dR_areDigits_15 : decode cR_areDigits 15 = .ok (.irem, 1) := by decide +kernel
theorem dR_areDigits_16 : decode cR_areDigits 16 = .ok (.istore_n 2, 1) := by decide +kernel
theorem dR_areDigits_17 : decode cR_areDigits 17 = .ok (.iconst 0, 1) := by decide +kernel
theorem dR_areDigits_18 : decode cR_areDigits 18 = .ok (.istore_n 3, 1) := by decide +kernel
theorem dR_areDigits_19 : decode cR_areDigits 19 = .ok (.iload_n 3, 1) := by decide +kernel
theorem dR_areDigits_20 : decode cR_areDigits 20 = .ok (.iload_n 2, 1) := by decide +kernel
theorem dR_areDigits_21 : decode cR_areDigits 21 = .ok (.iload_n 1, 1) := by decide +kernel
theorem dR_areDigits_22 : decode cR_areDigits 22 = .ok (.iadd, 1) := by decide +kernel
theorem dR_areDigits_23 : decode cR_areDigits 23 = .ok (.if_icmp .ge 42, 3) := by decide +kernel
theorem dR_areDigits_26 : decode cR_areDigits 26 = .ok (.aload_n 0, 1) := by decide +kernel
theorem dR_areDigits_27 : decode cR_areDigits 27 = .ok (.iload_n 3, 1) := by decide +kernel
theorem dR_areDigits_28 : decode cR_areDigits 28 = .ok (.invokevirtual 123, 3) := by decide +kernel
theorem dR_areDigits_31 : decode cR_areDigits 31 = .ok (.iload_n 3, 1) := by decide +kernel
theorem dR_areDigits_32 : decode cR_areDigits 32 = .ok (.iload_n 2, 1) := by decide +kernel
theorem dR_areDigits_33 : decode cR_areDigits 33 = .ok (.if_icmp .ge 7, 3) := by decide +kernel
theorem dR_areDigits_36 : decode cR_areDigits 36 = .ok (.iconst 0, 1) := by decide +kernel
theorem dR_areDigits_37 : decode cR_areDigits 37 = .ok (.goto 5, 3) := by decide +kernel
theorem dR_areDigits_40 : decode cR_areDigits 40 = .ok (.bipush 9, 2) := by decide +kernel
theorem dR_areDigits_42 : decode cR_areDigits 42 = .ok (.if_icmp .le 17, 3) := by decide +kernel
theorem dR_areDigits_45 : decode cR_areDigits 45 = .ok (.aload_n 0, 1) := by decide +kernel
theorem dR_areDigits_46 : decode cR_areDigits 46 = .ok (.iconst 2, 1) := by decide +kernel
theorem dR_areDigits_47 : decode cR_areDigits 47 = .ok (.aload_n 0, 1) := by decide +kernel
theorem dR_areDigits_48 : decode cR_areDigits 48 = .ok (.getfield 25, 3) := by decide +kernel
theorem dR_areDigits_51 : decode cR_areDigits 51 = .ok (.iload_n 3, 1) := by decide +kernel
theorem dR_areDigits_52 : decode cR_areDigits 52 = .ok (.iconst 2, 1) := by decide +kernel
theorem dR_areDigits_53 : decode cR_areDigits 53 = .ok (.idiv, 1) := by decide +kernel
theorem dR_areDigits_54 : decode cR_areDigits 54 = .ok (.iadd, 1) := by decide +kernel
theorem dR_areDigits_55 : decode cR_areDigits 55 = .ok (.invokevirtual 65, 3) := by decide +kernel
theorem dR_areDigits_58 : decode cR_areDigits 58 = .ok (.ireturn, 1) := by decide +kernel
theorem dR_areDigits_59 : decode cR_areDigits 59 = .ok (.iinc 3 1, 3) := by decide +kernel
theorem dR_areDigits_62 : decode cR_areDigits 62 = .ok (.goto (-43), 3) := by decide +kernel
theorem dR_areDigits_65 : decode cR_areDigits 65 = .ok (.iconst 1, 1) := by decide +kernel
theorem dR_areDigits_66 : decode cR_areDigits 66 = .ok (.ireturn, 1) := by decide +kernel
theorem dR_digitAhead_0 : decode cR_digitAhead 0 = .ok (.aload_n 0, 1) := by decide +kernel
theorem dR_digitAhead_1 : decode cR_digitAhead 1 = .ok (.iload_n 2, 1) := by decide +kernel
theorem dR_digitAhead_2 : decode cR_digitAhead 2 = .ok (.iconst 2, 1) := by decide +kernel
theorem dR_digitAhead_3 : decode cR_digitAhead 3 = .ok (.irem, 1) := by decide +kernel
theorem dR_digitAhead_4 : decode cR_digitAhead 4 = .ok (.iload_n 1, 1) := by decide +kernel
theorem dR_digitAhead_5 : decode cR_digitAhead 5 = .ok (.iadd, 1) := by decide +kernel
theorem dR_digitAhead_6 : decode cR_digitAhead 6 = .ok (.invokevirtual 123, 3) := by decide +kernel
theorem dR_digitAhead_9 : decode cR_digitAhead 9 = .ok (.ireturn, 1) := by decide +kernel
theorem dR_fail_0 : decode cR_fail 0 = .ok (.aload_n 0, 1) := by decide +kernel
theorem dR_fail_1 : decode cR_fail 1 = .ok (.iload_n 1, 1) := by decide +kernel
theorem dR_fail_2 : decode cR_fail 2 = .ok (.putfield 18, 3) := by decide +kernel
theorem dR_fail_5 : decode cR_fail 5 = .ok (.aload_n 0, 1) := by decide +kernel
theorem dR_fail_6 : decode cR_fail 6 = .ok (.iload_n 2, 1) := by decide +kernel
theorem dR_fail_7 : decode cR_fail 7 = .ok (.putfield 22, 3) := by decide +kernel
theorem dR_fail_10 : decode cR_fail 10 = .ok (.iconst 0, 1) := by decide +kernel
theorem dR_fail_11 : decode cR_fail 11 = .ok (.ireturn, 1) := by decide +kernel
theorem dR_halfAhead_0 : decode cR_halfAhead 0 = .ok (.aload_n 0, 1) := by decide +kernel
theorem dR_halfAhead_1 : decode cR_halfAhead 1 = .ok (.getfield 31, 3) := by decide +kernel
theorem dR_halfAhead_4 : decode cR_halfAhead 4 = .ok (.aload_n 0, 1) := by decide +kernel
theorem dR_halfAhead_5 : decode cR_halfAhead 5 = .ok (.getfield 25, 3) := by decide +kernel
theorem dR_halfAhead_8 : decode cR_halfAhead 8 = .ok (.iload_n 1, 1) := by decide +kernel
theorem dR_halfAhead_9 : decode cR_halfAhead 9 = .ok (.iconst 2, 1) := by decide +kernel
theorem dR_halfAhead_10 : decode cR_halfAhead 10 = .ok (.idiv, 1) := by decide +kernel
theorem dR_halfAhead_11 : decode cR_halfAhead 11 = .ok (.iadd, 1) := by decide +kernel
theorem dR_halfAhead_12 : decode cR_halfAhead 12 = .ok (.invokevirtual 50, 3) := by decide +kernel
theorem dR_halfAhead_15 : decode cR_halfAhead 15 = .ok (.istore_n 2, 1) := by decide +kernel
theorem dR_halfAhead_16 : decode cR_halfAhead 16 = .ok (.iload_n 1, 1) := by decide +kernel
theorem dR_halfAhead_17 : decode cR_halfAhead 17 = .ok (.iconst 2, 1) := by decide +kernel
theorem dR_halfAhead_18 : decode cR_halfAhead 18 = .ok (.irem, 1) := by decide +kernel
theorem dR_halfAhead_19 : decode cR_halfAhead 19 = .ok (.ifCond .ne 9, 3) := by decide +kernel
theorem dR_halfAhead_22 : decode cR_halfAhead 22 = .ok (.iload_n 2, 1) := by decide +kernel
theorem dR_halfAhead_23 : decode cR_halfAhead 23 = .ok (.iconst 4, 1) := by decide +kernel
theorem dR_halfAhead_24 : decode cR_halfAhead 24 = .ok (.ishr, 1) := by decide +kernel
theorem dR_halfAhead_25 : decode cR_halfAhead 25 = .ok (.goto 7, 3) := by decide +kernel
theorem dR_halfAhead_28 : decode cR_halfAhead 28 = .ok (.iload_n 2, 1) := by decide +kernel
theorem dR_halfAhead_29 : decode cR_halfAhead 29 = .ok (.bipush 15, 2) := by decide +kernel
theorem dR_halfAhead_31 : decode cR_halfAhead 31 = .ok (.iand, 1) := by decide +kernel
theorem dR_halfAhead_32 : decode cR_halfAhead 32 = .ok (.ireturn, 1) := by decide +kernel
theorem dR_hasBit_0 : decode cR_hasBit 0 = .ok (.iload_n 1, 1) := by decide +kernel
theorem dR_hasBit_1 : decode cR_hasBit 1 = .ok (.istore_n 2, 1) := by decide +kernel
theorem dR_hasBit_2 : decode cR_hasBit 2 = .ok (.iload_n 2, 1) := by decide +kernel
theorem dR_hasBit_3 : decode cR_hasBit 3 = .ok (.iload_n 1, 1) := by decide +kernel
theorem dR_hasBit_4 : decode cR_hasBit 4 = .ok (.bipush 8, 2) := by decide +kernel
theorem dR_hasBit_6 : decode cR_hasBit 6 = .ok (.iadd, 1) := by decide +kernel
theorem dR_hasBit_7 : decode cR_hasBit 7 = .ok (.if_icmp .ge 22, 3) := by decide +kernel
theorem dR_hasBit_10 : decode cR_hasBit 10 = .ok (.aload_n 0, 1) := by decide +kernel
theorem dR_hasBit_11 : decode cR_hasBit 11 = .ok (.getfield 31, 3) := by decide +kernel
theorem dR_hasBit_14 : decode cR_hasBit 14 = .ok (.iload_n 2, 1) := by decide +kernel
theorem dR_hasBit_15 : decode cR_hasBit 15 = .ok (.invokevirtual 50, 3) := by decide +kernel
theorem dR_hasBit_18 : decode cR_hasBit 18 = .ok (.ifCond .eq 5, 3) := by decide +kernel
theorem dR_hasBit_21 : decode cR_hasBit 21 = .ok (.iconst 1, 1) := by decide +kernel
theorem dR_hasBit_22 : decode cR_hasBit 22 = .ok (.ireturn, 1) := by decide +kernel
theorem dR_hasBit_23 : decode cR_hasBit 23 = .ok (.iinc 2 1, 3) := by decide +kernel
theorem dR_hasBit_26 : decode cR_hasBit 26 = .ok (.goto (-24), 3) := by decide +kernel
theorem dR_hasBit_29 : decode cR_hasBit 29 = .ok (.iconst 0, 1) := by decide +kernel
theorem dR_hasBit_30 : decode cR_hasBit 30 = .ok (.ireturn, 1) := by decide +kernel
theorem dR_init_0 : decode cR_init 0 = .ok (.aload_n 0, 1) := by decide +kernel
theorem dR_init_1 : decode cR_init 1 = .ok (.invokespecial 3, 3) := by decide +kernel
theorem dR_init_4 : decode cR_init 4 = .ok (.aload_n 0, 1) := by decide +kernel
theorem dR_init_5 : decode cR_init 5 = .ok (.new 9, 3) := by decide +kernel
theorem dR_init_8 : decode cR_init 8 = .ok (.dup, 1) := by decide +kernel
theorem dR_init_9 : decode cR_init 9 = .ok (.invokespecial 11, 3) := by decide +kernel
theorem dR_init_12 : decode cR_init 12 = .ok (.putfield 12, 3) := by decide +kernel
theorem dR_init_15 : decode cR_init 15 = .ok (.aload_n 0, 1) := by decide +kernel
theorem dR_init_16 : decode cR_init 16 = .ok (.iconst 0, 1) := by decide +kernel
theorem dR_init_17 : decode cR_init 17 = .ok (.putfield 18, 3) := by decide +kernel
theorem dR_init_20 : decode cR_init 20 = .ok (.aload_n 0, 1) := by decide +kernel
theorem dR_init_21 : decode cR_init 21 = .ok (.iconst (-1), 1) := by decide +kernel
theorem dR_init_22 : decode cR_init 22 = .ok (.putfield 22, 3) := by decide +kernel
theorem dR_init_25 : decode cR_init 25 = .ok (.aload_n 0, 1) := by decide +kernel
theorem dR_init_26 : decode cR_init 26 = .ok (.iconst 0, 1) := by decide +kernel
theorem dR_init_27 : decode cR_init 27 = .ok (.putfield 25, 3) := by decide +kernel
theorem dR_init_30 : decode cR_init 30 = .ok (.aload_n 0, 1) := by decide +kernel
theorem dR_init_31 : decode cR_init 31 = .ok (.iconst 0, 1) := by decide +kernel
theorem dR_init_32 : decode cR_init 32 = .ok (.putfield 28, 3) := by decide +kernel
theorem dR_init_35 : decode cR_init 35 = .ok (.aload_n 0, 1) := by decide +kernel
theorem dR_init_36 : decode cR_init 36 = .ok (.aload_n 1, 1) := by decide +kernel
theorem dR_init_37 : decode cR_init 37 = .ok (.putfield 31, 3) := by decide +kernel
theorem dR_init_40 : decode cR_init 40 = .ok (.return_, 1) := by decide +kernel
theorem dR_isLetter_0 : decode cR_isLetter 0 = .ok (.iload_n 0, 1) := by decide +kernel
theorem dR_isLetter_1 : decode cR_isLetter 1 = .ok (.bipush 48, 2) := by decide +kernel
theorem dR_isLetter_3 : decode cR_isLetter 3 = .ok (.if_icmp .lt 9, 3) := by decide +kernel
theorem dR_isLetter_6 : decode cR_isLetter 6 = .ok (.iload_n 0, 1) := by decide +kernel
theorem dR_isLetter_7 : decode cR_isLetter 7 = .ok (.bipush 57, 2) := by decide +kernel
theorem dR_isLetter_9 : decode cR_isLetter 9 = .ok (.if_icmp .le 15, 3) := by decide +kernel
theorem dR_isLetter_12 : decode cR_isLetter 12 = .ok (.iload_n 0, 1) := by decide +kernel
theorem dR_isLetter_13 : decode cR_isLetter 13 = .ok (.bipush 65, 2) := by decide +kernel
theorem dR_isLetter_15 : decode cR_isLetter 15 = .ok (.if_icmp .lt 13, 3) := by decide +kernel
theorem dR_isLetter_18 : decode cR_isLetter 18 = .ok (.iload_n 0, 1) := by decide +kernel
theorem dR_isLetter_19 : decode cR_isLetter 19 = .ok (.bipush 90, 2) := by decide +kernel
theorem dR_isLetter_21 : decode cR_isLetter 21 = .ok (.if_icmp .gt 7, 3) := by decide +kernel
theorem dR_isLetter_24 : decode cR_isLetter 24 = .ok (.iconst 1, 1) := by decide +kernel
theorem dR_isLetter_25 : decode cR_isLetter 25 = .ok (.goto 4, 3) := by decide +kernel
theorem dR_isLetter_28 : decode cR_isLetter 28 = .ok (.iconst 0, 1) := by decide +kernel
theorem dR_isLetter_29 : decode cR_isLetter 29 = .ok (.ireturn, 1) := by decide +kernel
theorem dR_reaches_0 : decode cR_reaches 0 = .ok (.iload_n 1, 1) := by decide +kernel
theorem dR_reaches_1 : decode cR_reaches 1 = .ok (.aload_n 0, 1) := by decide +kernel
theorem dR_reaches_2 : decode cR_reaches 2 = .ok (.getfield 31, 3) := by decide +kernel
theorem dR_reaches_5 : decode cR_reaches 5 = .ok (.getfield 62, 3) := by decide +kernel
theorem dR_reaches_8 : decode cR_reaches 8 = .ok (.aload_n 0, 1) := by decide +kernel
theorem dR_reaches_9 : decode cR_reaches 9 = .ok (.getfield 25, 3) := by decide +kernel
theorem dR_reaches_12 : decode cR_reaches 12 = .ok (.isub, 1) := by decide +kernel
theorem dR_reaches_13 : decode cR_reaches 13 = .ok (.if_icmp .le 18, 3) := by decide +kernel
theorem dR_reaches_16 : decode cR_reaches 16 = .ok (.aload_n 0, 1) := by decide +kernel
theorem dR_reaches_17 : decode cR_reaches 17 = .ok (.iconst 1, 1) := by decide +kernel
theorem dR_reaches_18 : decode cR_reaches 18 = .ok (.aload_n 0, 1) := by decide +kernel
theorem dR_reaches_19 : decode cR_reaches 19 = .ok (.getfield 31, 3) := by decide +kernel
theorem dR_reaches_22 : decode cR_reaches 22 = .ok (.getfield 62, 3) := by decide +kernel
theorem dR_reaches_25 : decode cR_reaches 25 = .ok (.invokevirtual 65, 3) := by decide +kernel
theorem dR_reaches_28 : decode cR_reaches 28 = .ok (.ifCond .eq 7, 3) := by decide +kernel
theorem dR_reaches_31 : decode cR_reaches 31 = .ok (.iconst 1, 1) := by decide +kernel
theorem dR_reaches_32 : decode cR_reaches 32 = .ok (.goto 4, 3) := by decide +kernel
theorem dR_reaches_35 : decode cR_reaches 35 = .ok (.iconst 0, 1) := by decide +kernel
theorem dR_reaches_36 : decode cR_reaches 36 = .ok (.ireturn, 1) := by decide +kernel
theorem dR_walk_0 : decode cR_walk 0 = .ok (.aload_n 0, 1) := by decide +kernel
theorem dR_walk_1 : decode cR_walk 1 = .ok (.iconst 0, 1) := by decide +kernel
theorem dR_walk_2 : decode cR_walk 2 = .ok (.putfield 18, 3) := by decide +kernel
theorem dR_walk_5 : decode cR_walk 5 = .ok (.aload_n 0, 1) := by decide +kernel
theorem dR_walk_6 : decode cR_walk 6 = .ok (.iconst (-1), 1) := by decide +kernel
theorem dR_walk_7 : decode cR_walk 7 = .ok (.putfield 22, 3) := by decide +kernel
theorem dR_walk_10 : decode cR_walk 10 = .ok (.aload_n 0, 1) := by decide +kernel
theorem dR_walk_11 : decode cR_walk 11 = .ok (.iconst 0, 1) := by decide +kernel
theorem dR_walk_12 : decode cR_walk 12 = .ok (.putfield 25, 3) := by decide +kernel
theorem dR_walk_15 : decode cR_walk 15 = .ok (.aload_n 0, 1) := by decide +kernel
theorem dR_walk_16 : decode cR_walk 16 = .ok (.invokevirtual 35, 3) := by decide +kernel
theorem dR_walk_19 : decode cR_walk 19 = .ok (.ifCond .ne 5, 3) := by decide +kernel
theorem dR_walk_22 : decode cR_walk 22 = .ok (.iconst 0, 1) := by decide +kernel
theorem dR_walk_23 : decode cR_walk 23 = .ok (.ireturn, 1) := by decide +kernel
theorem dR_walk_24 : decode cR_walk 24 = .ok (.aload_n 0, 1) := by decide +kernel
theorem dR_walk_25 : decode cR_walk 25 = .ok (.getfield 25, 3) := by decide +kernel
theorem dR_walk_28 : decode cR_walk 28 = .ok (.istore_n 1, 1) := by decide +kernel
theorem dR_walk_29 : decode cR_walk 29 = .ok (.aload_n 0, 1) := by decide +kernel
theorem dR_walk_30 : decode cR_walk 30 = .ok (.invokevirtual 39, 3) := by decide +kernel
theorem dR_walk_33 : decode cR_walk 33 = .ok (.ifCond .ne 5, 3) := by decide +kernel
theorem dR_walk_36 : decode cR_walk 36 = .ok (.iconst 0, 1) := by decide +kernel
theorem dR_walk_37 : decode cR_walk 37 = .ok (.ireturn, 1) := by decide +kernel
theorem dR_walk_38 : decode cR_walk 38 = .ok (.aload_n 0, 1) := by decide +kernel
theorem dR_walk_39 : decode cR_walk 39 = .ok (.getfield 25, 3) := by decide +kernel
theorem dR_walk_42 : decode cR_walk 42 = .ok (.istore_n 2, 1) := by decide +kernel
theorem dR_walk_43 : decode cR_walk 43 = .ok (.iconst 0, 1) := by decide +kernel
theorem dR_walk_44 : decode cR_walk 44 = .ok (.istore_n 3, 1) := by decide +kernel
theorem dR_walk_45 : decode cR_walk 45 = .ok (.iload_n 3, 1) := by decide +kernel
theorem dR_walk_46 : decode cR_walk 46 = .ok (.bipush 16, 2) := by decide +kernel
theorem dR_walk_48 : decode cR_walk 48 = .ok (.if_icmp .ge 58, 3) := by decide +kernel
theorem dR_walk_51 : decode cR_walk 51 = .ok (.iload_n 1, 1) := by decide +kernel
theorem dR_walk_52 : decode cR_walk 52 = .ok (.getstatic 42, 3) := by decide +kernel
theorem dR_walk_55 : decode cR_walk 55 = .ok (.iload_n 3, 1) := by decide +kernel
theorem dR_walk_56 : decode cR_walk 56 = .ok (.iaload, 1) := by decide +kernel
theorem dR_walk_57 : decode cR_walk 57 = .ok (.invokestatic 46, 3) := by decide +kernel
theorem dR_walk_60 : decode cR_walk 60 = .ok (.iadd, 1) := by decide +kernel
theorem dR_walk_61 : decode cR_walk 61 = .ok (.istore 4, 2) := by decide +kernel
theorem dR_walk_63 : decode cR_walk 63 = .ok (.iload 4, 2) := by decide +kernel
theorem dR_walk_65 : decode cR_walk 65 = .ok (.iload_n 2, 1) := by decide +kernel
theorem dR_walk_66 : decode cR_walk 66 = .ok (.if_icmp .ge 34, 3) := by decide +kernel
theorem dR_walk_69 : decode cR_walk 69 = .ok (.aload_n 0, 1) := by decide +kernel
theorem dR_walk_70 : decode cR_walk 70 = .ok (.getfield 31, 3) := by decide +kernel
theorem dR_walk_73 : decode cR_walk 73 = .ok (.iload 4, 2) := by decide +kernel
theorem dR_walk_75 : decode cR_walk 75 = .ok (.invokevirtual 50, 3) := by decide +kernel
theorem dR_walk_78 : decode cR_walk 78 = .ok (.getstatic 42, 3) := by decide +kernel
theorem dR_walk_81 : decode cR_walk 81 = .ok (.iload_n 3, 1) := by decide +kernel
theorem dR_walk_82 : decode cR_walk 82 = .ok (.iaload, 1) := by decide +kernel
theorem dR_walk_83 : decode cR_walk 83 = .ok (.invokestatic 55, 3) := by decide +kernel
theorem dR_walk_86 : decode cR_walk 86 = .ok (.iand, 1) := by decide +kernel
theorem dR_walk_87 : decode cR_walk 87 = .ok (.ifCond .eq 13, 3) := by decide +kernel
theorem dR_walk_90 : decode cR_walk 90 = .ok (.aload_n 0, 1) := by decide +kernel
theorem dR_walk_91 : decode cR_walk 91 = .ok (.iload_n 3, 1) := by decide +kernel
theorem dR_walk_92 : decode cR_walk 92 = .ok (.invokevirtual 58, 3) := by decide +kernel
theorem dR_walk_95 : decode cR_walk 95 = .ok (.ifCond .ne 5, 3) := by decide +kernel
theorem dR_walk_98 : decode cR_walk 98 = .ok (.iconst 0, 1) := by decide +kernel
theorem dR_walk_99 : decode cR_walk 99 = .ok (.ireturn, 1) := by decide +kernel
theorem dR_walk_100 : decode cR_walk 100 = .ok (.iinc 3 1, 3) := by decide +kernel
theorem dR_walk_103 : decode cR_walk 103 = .ok (.goto (-58), 3) := by decide +kernel
theorem dR_walk_106 : decode cR_walk 106 = .ok (.aload_n 0, 1) := by decide +kernel
theorem dR_walk_107 : decode cR_walk 107 = .ok (.getfield 25, 3) := by decide +kernel
theorem dR_walk_110 : decode cR_walk 110 = .ok (.aload_n 0, 1) := by decide +kernel
theorem dR_walk_111 : decode cR_walk 111 = .ok (.getfield 31, 3) := by decide +kernel
theorem dR_walk_114 : decode cR_walk 114 = .ok (.getfield 62, 3) := by decide +kernel
theorem dR_walk_117 : decode cR_walk 117 = .ok (.if_icmp .eq 16, 3) := by decide +kernel
theorem dR_walk_120 : decode cR_walk 120 = .ok (.aload_n 0, 1) := by decide +kernel
theorem dR_walk_121 : decode cR_walk 121 = .ok (.bipush 7, 2) := by decide +kernel
theorem dR_walk_123 : decode cR_walk 123 = .ok (.aload_n 0, 1) := by decide +kernel
theorem dR_walk_124 : decode cR_walk 124 = .ok (.getfield 25, 3) := by decide +kernel
theorem dR_walk_127 : decode cR_walk 127 = .ok (.invokevirtual 65, 3) := by decide +kernel
theorem dR_walk_130 : decode cR_walk 130 = .ok (.ifCond .eq 7, 3) := by decide +kernel
theorem dR_walk_133 : decode cR_walk 133 = .ok (.iconst 1, 1) := by decide +kernel
theorem dR_walk_134 : decode cR_walk 134 = .ok (.goto 4, 3) := by decide +kernel
theorem dR_walk_137 : decode cR_walk 137 = .ok (.iconst 0, 1) := by decide +kernel
theorem dR_walk_138 : decode cR_walk 138 = .ok (.ireturn, 1) := by decide +kernel
theorem dR_walkDigits_0 : decode cR_walkDigits 0 = .ok (.aload_n 0, 1) := by decide +kernel
theorem dR_walkDigits_1 : decode cR_walkDigits 1 = .ok (.iload_n 2, 1) := by decide +kernel
theorem dR_walkDigits_2 : decode cR_walkDigits 2 = .ok (.invokevirtual 103, 3) := by decide +kernel
theorem dR_walkDigits_5 : decode cR_walkDigits 5 = .ok (.ifCond .ne 5, 3) := by decide +kernel
theorem dR_walkDigits_8 : decode cR_walkDigits 8 = .ok (.iconst 0, 1) := by decide +kernel
theorem dR_walkDigits_9 : decode cR_walkDigits 9 = .ok (.ireturn, 1) := by decide +kernel
theorem dR_walkDigits_10 : decode cR_walkDigits 10 = .ok (.iconst 0, 1) := by decide +kernel
theorem dR_walkDigits_11 : decode cR_walkDigits 11 = .ok (.istore_n 3, 1) := by decide +kernel
theorem dR_walkDigits_12 : decode cR_walkDigits 12 = .ok (.iload_n 3, 1) := by decide +kernel
theorem dR_walkDigits_13 : decode cR_walkDigits 13 = .ok (.iload_n 2, 1) := by decide +kernel
theorem dR_walkDigits_14 : decode cR_walkDigits 14 = .ok (.if_icmp .ge 24, 3) := by decide +kernel
theorem dR_walkDigits_17 : decode cR_walkDigits 17 = .ok (.aload_n 0, 1) := by decide +kernel
theorem dR_walkDigits_18 : decode cR_walkDigits 18 = .ok (.getfield 12, 3) := by decide +kernel
theorem dR_walkDigits_21 : decode cR_walkDigits 21 = .ok (.iload_n 1, 1) := by decide +kernel
theorem dR_walkDigits_22 : decode cR_walkDigits 22 = .ok (.iload_n 3, 1) := by decide +kernel
theorem dR_walkDigits_23 : decode cR_walkDigits 23 = .ok (.aload_n 0, 1) := by decide +kernel
theorem dR_walkDigits_24 : decode cR_walkDigits 24 = .ok (.iload_n 3, 1) := by decide +kernel
theorem dR_walkDigits_25 : decode cR_walkDigits 25 = .ok (.iload_n 2, 1) := by decide +kernel
theorem dR_walkDigits_26 : decode cR_walkDigits 26 = .ok (.invokevirtual 106, 3) := by decide +kernel
theorem dR_walkDigits_29 : decode cR_walkDigits 29 = .ok (.invokevirtual 113, 3) := by decide +kernel
theorem dR_walkDigits_32 : decode cR_walkDigits 32 = .ok (.iinc 3 1, 3) := by decide +kernel
theorem dR_walkDigits_35 : decode cR_walkDigits 35 = .ok (.goto (-23), 3) := by decide +kernel
theorem dR_walkDigits_38 : decode cR_walkDigits 38 = .ok (.aload_n 0, 1) := by decide +kernel
theorem dR_walkDigits_39 : decode cR_walkDigits 39 = .ok (.getfield 12, 3) := by decide +kernel
theorem dR_walkDigits_42 : decode cR_walkDigits 42 = .ok (.getfield 117, 3) := by decide +kernel
theorem dR_walkDigits_45 : decode cR_walkDigits 45 = .ok (.iload_n 1, 1) := by decide +kernel
theorem dR_walkDigits_46 : decode cR_walkDigits 46 = .ok (.iload_n 2, 1) := by decide +kernel
theorem dR_walkDigits_47 : decode cR_walkDigits 47 = .ok (.iastore, 1) := by decide +kernel
theorem dR_walkDigits_48 : decode cR_walkDigits 48 = .ok (.aload_n 0, 1) := by decide +kernel
theorem dR_walkDigits_49 : decode cR_walkDigits 49 = .ok (.dup, 1) := by decide +kernel
theorem dR_walkDigits_50 : decode cR_walkDigits 50 = .ok (.getfield 25, 3) := by decide +kernel
theorem dR_walkDigits_53 : decode cR_walkDigits 53 = .ok (.iload_n 2, 1) := by decide +kernel
theorem dR_walkDigits_54 : decode cR_walkDigits 54 = .ok (.invokestatic 110, 3) := by decide +kernel
theorem dR_walkDigits_57 : decode cR_walkDigits 57 = .ok (.iadd, 1) := by decide +kernel
theorem dR_walkDigits_58 : decode cR_walkDigits 58 = .ok (.putfield 25, 3) := by decide +kernel
theorem dR_walkDigits_61 : decode cR_walkDigits 61 = .ok (.iconst 1, 1) := by decide +kernel
theorem dR_walkDigits_62 : decode cR_walkDigits 62 = .ok (.ireturn, 1) := by decide +kernel
theorem dR_walkField_0 : decode cR_walkField 0 = .ok (.getstatic 88, 3) := by decide +kernel
theorem dR_walkField_3 : decode cR_walkField 3 = .ok (.iload_n 1, 1) := by decide +kernel
theorem dR_walkField_4 : decode cR_walkField 4 = .ok (.iaload, 1) := by decide +kernel
theorem dR_walkField_5 : decode cR_walkField 5 = .ok (.istore_n 2, 1) := by decide +kernel
theorem dR_walkField_6 : decode cR_walkField 6 = .ok (.getstatic 91, 3) := by decide +kernel
theorem dR_walkField_9 : decode cR_walkField 9 = .ok (.iload_n 1, 1) := by decide +kernel
theorem dR_walkField_10 : decode cR_walkField 10 = .ok (.iaload, 1) := by decide +kernel
theorem dR_walkField_11 : decode cR_walkField 11 = .ok (.ifCond .eq 48, 3) := by decide +kernel
theorem dR_walkField_14 : decode cR_walkField 14 = .ok (.aload_n 0, 1) := by decide +kernel
theorem dR_walkField_15 : decode cR_walkField 15 = .ok (.getfield 25, 3) := by decide +kernel
theorem dR_walkField_18 : decode cR_walkField 18 = .ok (.istore_n 3, 1) := by decide +kernel
theorem dR_walkField_19 : decode cR_walkField 19 = .ok (.aload_n 0, 1) := by decide +kernel
theorem dR_walkField_20 : decode cR_walkField 20 = .ok (.getstatic 91, 3) := by decide +kernel
theorem dR_walkField_23 : decode cR_walkField 23 = .ok (.iload_n 1, 1) := by decide +kernel
theorem dR_walkField_24 : decode cR_walkField 24 = .ok (.iaload, 1) := by decide +kernel
theorem dR_walkField_25 : decode cR_walkField 25 = .ok (.invokevirtual 69, 3) := by decide +kernel
theorem dR_walkField_28 : decode cR_walkField 28 = .ok (.ifCond .ne 5, 3) := by decide +kernel
theorem dR_walkField_31 : decode cR_walkField 31 = .ok (.iconst 0, 1) := by decide +kernel
theorem dR_walkField_32 : decode cR_walkField 32 = .ok (.ireturn, 1) := by decide +kernel
theorem dR_walkField_33 : decode cR_walkField 33 = .ok (.aload_n 0, 1) := by decide +kernel
theorem dR_walkField_34 : decode cR_walkField 34 = .ok (.getfield 28, 3) := by decide +kernel
theorem dR_walkField_37 : decode cR_walkField 37 = .ok (.istore_n 2, 1) := by decide +kernel
theorem dR_walkField_38 : decode cR_walkField 38 = .ok (.iload_n 2, 1) := by decide +kernel
theorem dR_walkField_39 : decode cR_walkField 39 = .ok (.iconst 1, 1) := by decide +kernel
theorem dR_walkField_40 : decode cR_walkField 40 = .ok (.if_icmp .lt 12, 3) := by decide +kernel
theorem dR_walkField_43 : decode cR_walkField 43 = .ok (.iload_n 2, 1) := by decide +kernel
theorem dR_walkField_44 : decode cR_walkField 44 = .ok (.getstatic 88, 3) := by decide +kernel
theorem dR_walkField_47 : decode cR_walkField 47 = .ok (.iload_n 1, 1) := by decide +kernel
theorem dR_walkField_48 : decode cR_walkField 48 = .ok (.iaload, 1) := by decide +kernel
theorem dR_walkField_49 : decode cR_walkField 49 = .ok (.if_icmp .le 10, 3) := by decide +kernel
theorem dR_walkField_52 : decode cR_walkField 52 = .ok (.aload_n 0, 1) := by decide +kernel
theorem dR_walkField_53 : decode cR_walkField 53 = .ok (.iconst 5, 1) := by decide +kernel
theorem dR_walkField_54 : decode cR_walkField 54 = .ok (.iload_n 3, 1) := by decide +kernel
theorem dR_walkField_55 : decode cR_walkField 55 = .ok (.invokevirtual 65, 3) := by decide +kernel
theorem dR_walkField_58 : decode cR_walkField 58 = .ok (.ireturn, 1) := by decide +kernel
theorem dR_walkField_59 : decode cR_walkField 59 = .ok (.getstatic 94, 3) := by decide +kernel
theorem dR_walkField_62 : decode cR_walkField 62 = .ok (.iload_n 1, 1) := by decide +kernel
theorem dR_walkField_63 : decode cR_walkField 63 = .ok (.iaload, 1) := by decide +kernel
theorem dR_walkField_64 : decode cR_walkField 64 = .ok (.ifCond .eq 12, 3) := by decide +kernel
theorem dR_walkField_67 : decode cR_walkField 67 = .ok (.aload_n 0, 1) := by decide +kernel
theorem dR_walkField_68 : decode cR_walkField 68 = .ok (.iload_n 1, 1) := by decide +kernel
theorem dR_walkField_69 : decode cR_walkField 69 = .ok (.iload_n 2, 1) := by decide +kernel
theorem dR_walkField_70 : decode cR_walkField 70 = .ok (.invokevirtual 97, 3) := by decide +kernel
theorem dR_walkField_73 : decode cR_walkField 73 = .ok (.goto 9, 3) := by decide +kernel
theorem dR_walkField_76 : decode cR_walkField 76 = .ok (.aload_n 0, 1) := by decide +kernel
theorem dR_walkField_77 : decode cR_walkField 77 = .ok (.iload_n 1, 1) := by decide +kernel
theorem dR_walkField_78 : decode cR_walkField 78 = .ok (.iload_n 2, 1) := by decide +kernel
theorem dR_walkField_79 : decode cR_walkField 79 = .ok (.invokevirtual 100, 3) := by decide +kernel
theorem dR_walkField_82 : decode cR_walkField 82 = .ok (.ireturn, 1) := by decide +kernel
theorem dR_walkLetters_0 : decode cR_walkLetters 0 = .ok (.aload_n 0, 1) := by decide +kernel
theorem dR_walkLetters_1 : decode cR_walkLetters 1 = .ok (.iload_n 2, 1) := by decide +kernel
theorem dR_walkLetters_2 : decode cR_walkLetters 2 = .ok (.invokevirtual 79, 3) := by decide +kernel
theorem dR_walkLetters_5 : decode cR_walkLetters 5 = .ok (.ifCond .ne 5, 3) := by decide +kernel
theorem dR_walkLetters_8 : decode cR_walkLetters 8 = .ok (.iconst 0, 1) := by decide +kernel
theorem dR_walkLetters_9 : decode cR_walkLetters 9 = .ok (.ireturn, 1) := by decide +kernel
theorem dR_walkLetters_10 : decode cR_walkLetters 10 = .ok (.iconst 0, 1) := by decide +kernel
theorem dR_walkLetters_11 : decode cR_walkLetters 11 = .ok (.istore_n 3, 1) := by decide +kernel
theorem dR_walkLetters_12 : decode cR_walkLetters 12 = .ok (.iload_n 3, 1) := by decide +kernel
theorem dR_walkLetters_13 : decode cR_walkLetters 13 = .ok (.iload_n 2, 1) := by decide +kernel
theorem dR_walkLetters_14 : decode cR_walkLetters 14 = .ok (.if_icmp .ge 56, 3) := by decide +kernel
theorem dR_walkLetters_17 : decode cR_walkLetters 17 = .ok (.aload_n 0, 1) := by decide +kernel
theorem dR_walkLetters_18 : decode cR_walkLetters 18 = .ok (.getfield 31, 3) := by decide +kernel
theorem dR_walkLetters_21 : decode cR_walkLetters 21 = .ok (.aload_n 0, 1) := by decide +kernel
theorem dR_walkLetters_22 : decode cR_walkLetters 22 = .ok (.getfield 25, 3) := by decide +kernel
theorem dR_walkLetters_25 : decode cR_walkLetters 25 = .ok (.iload_n 3, 1) := by decide +kernel
theorem dR_walkLetters_26 : decode cR_walkLetters 26 = .ok (.iadd, 1) := by decide +kernel
theorem dR_walkLetters_27 : decode cR_walkLetters 27 = .ok (.invokevirtual 50, 3) := by decide +kernel
theorem dR_walkLetters_30 : decode cR_walkLetters 30 = .ok (.istore 4, 2) := by decide +kernel
theorem dR_walkLetters_32 : decode cR_walkLetters 32 = .ok (.iload 4, 2) := by decide +kernel
theorem dR_walkLetters_34 : decode cR_walkLetters 34 = .ok (.invokestatic 120, 3) := by decide +kernel
theorem dR_walkLetters_37 : decode cR_walkLetters 37 = .ok (.ifCond .ne 16, 3) := by decide +kernel
theorem dR_walkLetters_40 : decode cR_walkLetters 40 = .ok (.aload_n 0, 1) := by decide +kernel
theorem dR_walkLetters_41 : decode cR_walkLetters 41 = .ok (.bipush 6, 2) := by decide +kernel
theorem dR_walkLetters_43 : decode cR_walkLetters 43 = .ok (.aload_n 0, 1) := by decide +kernel
theorem dR_walkLetters_44 : decode cR_walkLetters 44 = .ok (.getfield 25, 3) := by decide +kernel
theorem dR_walkLetters_47 : decode cR_walkLetters 47 = .ok (.iload_n 3, 1) := by decide +kernel
theorem dR_walkLetters_48 : decode cR_walkLetters 48 = .ok (.iadd, 1) := by decide +kernel
theorem dR_walkLetters_49 : decode cR_walkLetters 49 = .ok (.invokevirtual 65, 3) := by decide +kernel
theorem dR_walkLetters_52 : decode cR_walkLetters 52 = .ok (.ireturn, 1) := by decide +kernel
theorem dR_walkLetters_53 : decode cR_walkLetters 53 = .ok (.aload_n 0, 1) := by decide +kernel
theorem dR_walkLetters_54 : decode cR_walkLetters 54 = .ok (.getfield 12, 3) := by decide +kernel
theorem dR_walkLetters_57 : decode cR_walkLetters 57 = .ok (.iload_n 1, 1) := by decide +kernel
theorem dR_walkLetters_58 : decode cR_walkLetters 58 = .ok (.iload_n 3, 1) := by decide +kernel
theorem dR_walkLetters_59 : decode cR_walkLetters 59 = .ok (.iload 4, 2) := by decide +kernel
theorem dR_walkLetters_61 : decode cR_walkLetters 61 = .ok (.invokevirtual 113, 3) := by decide +kernel
theorem dR_walkLetters_64 : decode cR_walkLetters 64 = .ok (.iinc 3 1, 3) := by decide +kernel
theorem dR_walkLetters_67 : decode cR_walkLetters 67 = .ok (.goto (-55), 3) := by decide +kernel
theorem dR_walkLetters_70 : decode cR_walkLetters 70 = .ok (.aload_n 0, 1) := by decide +kernel
theorem dR_walkLetters_71 : decode cR_walkLetters 71 = .ok (.getfield 12, 3) := by decide +kernel
theorem dR_walkLetters_74 : decode cR_walkLetters 74 = .ok (.getfield 117, 3) := by decide +kernel
theorem dR_walkLetters_77 : decode cR_walkLetters 77 = .ok (.iload_n 1, 1) := by decide +kernel
theorem dR_walkLetters_78 : decode cR_walkLetters 78 = .ok (.iload_n 2, 1) := by decide +kernel
theorem dR_walkLetters_79 : decode cR_walkLetters 79 = .ok (.iastore, 1) := by decide +kernel
theorem dR_walkLetters_80 : decode cR_walkLetters 80 = .ok (.aload_n 0, 1) := by decide +kernel
theorem dR_walkLetters_81 : decode cR_walkLetters 81 = .ok (.dup, 1) := by decide +kernel
theorem dR_walkLetters_82 : decode cR_walkLetters 82 = .ok (.getfield 25, 3) := by decide +kernel
theorem dR_walkLetters_85 : decode cR_walkLetters 85 = .ok (.iload_n 2, 1) := by decide +kernel
theorem dR_walkLetters_86 : decode cR_walkLetters 86 = .ok (.iadd, 1) := by decide +kernel
theorem dR_walkLetters_87 : decode cR_walkLetters 87 = .ok (.putfield 25, 3) := by decide +kernel
theorem dR_walkLetters_90 : decode cR_walkLetters 90 = .ok (.iconst 1, 1) := by decide +kernel
theorem dR_walkLetters_91 : decode cR_walkLetters 91 = .ok (.ireturn, 1) := by decide +kernel
theorem dR_walkMaps_0 : decode cR_walkMaps 0 = .ok (.aload_n 0, 1) := by decide +kernel
theorem dR_walkMaps_1 : decode cR_walkMaps 1 = .ok (.getfield 25, 3) := by decide +kernel
theorem dR_walkMaps_4 : decode cR_walkMaps 4 = .ok (.istore_n 1, 1) := by decide +kernel
theorem dR_walkMaps_5 : decode cR_walkMaps 5 = .ok (.aload_n 0, 1) := by decide +kernel
theorem dR_walkMaps_6 : decode cR_walkMaps 6 = .ok (.bipush 8, 2) := by decide +kernel
theorem dR_walkMaps_8 : decode cR_walkMaps 8 = .ok (.invokevirtual 79, 3) := by decide +kernel
theorem dR_walkMaps_11 : decode cR_walkMaps 11 = .ok (.ifCond .ne 5, 3) := by decide +kernel
theorem dR_walkMaps_14 : decode cR_walkMaps 14 = .ok (.iconst 0, 1) := by decide +kernel
theorem dR_walkMaps_15 : decode cR_walkMaps 15 = .ok (.ireturn, 1) := by decide +kernel
theorem dR_walkMaps_16 : decode cR_walkMaps 16 = .ok (.aload_n 0, 1) := by decide +kernel
theorem dR_walkMaps_17 : decode cR_walkMaps 17 = .ok (.dup, 1) := by decide +kernel
theorem dR_walkMaps_18 : decode cR_walkMaps 18 = .ok (.getfield 25, 3) := by decide +kernel
theorem dR_walkMaps_21 : decode cR_walkMaps 21 = .ok (.bipush 8, 2) := by decide +kernel
theorem dR_walkMaps_23 : decode cR_walkMaps 23 = .ok (.iadd, 1) := by decide +kernel
theorem dR_walkMaps_24 : decode cR_walkMaps 24 = .ok (.putfield 25, 3) := by decide +kernel
theorem dR_walkMaps_27 : decode cR_walkMaps 27 = .ok (.aload_n 0, 1) := by decide +kernel
theorem dR_walkMaps_28 : decode cR_walkMaps 28 = .ok (.getfield 31, 3) := by decide +kernel
theorem dR_walkMaps_31 : decode cR_walkMaps 31 = .ok (.iload_n 1, 1) := by decide +kernel
theorem dR_walkMaps_32 : decode cR_walkMaps 32 = .ok (.invokevirtual 50, 3) := by decide +kernel
theorem dR_walkMaps_35 : decode cR_walkMaps 35 = .ok (.sipush 128, 3) := by decide +kernel
theorem dR_walkMaps_38 : decode cR_walkMaps 38 = .ok (.iand, 1) := by decide +kernel
theorem dR_walkMaps_39 : decode cR_walkMaps 39 = .ok (.ifCond .eq 7, 3) := by decide +kernel
theorem dR_walkMaps_42 : decode cR_walkMaps 42 = .ok (.iconst 1, 1) := by decide +kernel
theorem dR_walkMaps_43 : decode cR_walkMaps 43 = .ok (.goto 4, 3) := by decide +kernel
theorem dR_walkMaps_46 : decode cR_walkMaps 46 = .ok (.iconst 0, 1) := by decide +kernel
theorem dR_walkMaps_47 : decode cR_walkMaps 47 = .ok (.istore_n 2, 1) := by decide +kernel
theorem dR_walkMaps_48 : decode cR_walkMaps 48 = .ok (.iload_n 2, 1) := by decide +kernel
theorem dR_walkMaps_49 : decode cR_walkMaps 49 = .ok (.ifCond .eq 25, 3) := by decide +kernel
theorem dR_walkMaps_52 : decode cR_walkMaps 52 = .ok (.aload_n 0, 1) := by decide +kernel
theorem dR_walkMaps_53 : decode cR_walkMaps 53 = .ok (.bipush 8, 2) := by decide +kernel
theorem dR_walkMaps_55 : decode cR_walkMaps 55 = .ok (.invokevirtual 79, 3) := by decide +kernel
theorem dR_walkMaps_58 : decode cR_walkMaps 58 = .ok (.ifCond .ne 5, 3) := by decide +kernel
theorem dR_walkMaps_61 : decode cR_walkMaps 61 = .ok (.iconst 0, 1) := by decide +kernel
theorem dR_walkMaps_62 : decode cR_walkMaps 62 = .ok (.ireturn, 1) := by decide +kernel
theorem dR_walkMaps_63 : decode cR_walkMaps 63 = .ok (.aload_n 0, 1) := by decide +kernel
theorem dR_walkMaps_64 : decode cR_walkMaps 64 = .ok (.dup, 1) := by decide +kernel
theorem dR_walkMaps_65 : decode cR_walkMaps 65 = .ok (.getfield 25, 3) := by decide +kernel
theorem dR_walkMaps_68 : decode cR_walkMaps 68 = .ok (.bipush 8, 2) := by decide +kernel
theorem dR_walkMaps_70 : decode cR_walkMaps 70 = .ok (.iadd, 1) := by decide +kernel
theorem dR_walkMaps_71 : decode cR_walkMaps 71 = .ok (.putfield 25, 3) := by decide +kernel
theorem dR_walkMaps_74 : decode cR_walkMaps 74 = .ok (.iload_n 1, 1) := by decide +kernel
theorem dR_walkMaps_75 : decode cR_walkMaps 75 = .ok (.istore_n 3, 1) := by decide +kernel
theorem dR_walkMaps_76 : decode cR_walkMaps 76 = .ok (.iload_n 3, 1) := by decide +kernel
theorem dR_walkMaps_77 : decode cR_walkMaps 77 = .ok (.aload_n 0, 1) := by decide +kernel
theorem dR_walkMaps_78 : decode cR_walkMaps 78 = .ok (.getfield 25, 3) := by decide +kernel
theorem dR_walkMaps_81 : decode cR_walkMaps 81 = .ok (.if_icmp .ge 37, 3) := by decide +kernel
theorem dR_walkMaps_84 : decode cR_walkMaps 84 = .ok (.aload_n 0, 1) := by decide +kernel
theorem dR_walkMaps_85 : decode cR_walkMaps 85 = .ok (.getfield 31, 3) := by decide +kernel
theorem dR_walkMaps_88 : decode cR_walkMaps 88 = .ok (.iload_n 3, 1) := by decide +kernel
theorem dR_walkMaps_89 : decode cR_walkMaps 89 = .ok (.invokevirtual 50, 3) := by decide +kernel
theorem dR_walkMaps_92 : decode cR_walkMaps 92 = .ok (.getstatic 82, 3) := by decide +kernel
theorem dR_walkMaps_95 : decode cR_walkMaps 95 = .ok (.iload_n 3, 1) := by decide +kernel
theorem dR_walkMaps_96 : decode cR_walkMaps 96 = .ok (.iload_n 1, 1) := by decide +kernel
theorem dR_walkMaps_97 : decode cR_walkMaps 97 = .ok (.isub, 1) := by decide +kernel
theorem dR_walkMaps_98 : decode cR_walkMaps 98 = .ok (.iaload, 1) := by decide +kernel
theorem dR_walkMaps_99 : decode cR_walkMaps 99 = .ok (.iconst (-1), 1) := by decide +kernel
theorem dR_walkMaps_100 : decode cR_walkMaps 100 = .ok (.ixor, 1) := by decide +kernel
theorem dR_walkMaps_101 : decode cR_walkMaps 101 = .ok (.iand, 1) := by decide +kernel
theorem dR_walkMaps_102 : decode cR_walkMaps 102 = .ok (.ifCond .eq 10, 3) := by decide +kernel
theorem dR_walkMaps_105 : decode cR_walkMaps 105 = .ok (.aload_n 0, 1) := by decide +kernel
theorem dR_walkMaps_106 : decode cR_walkMaps 106 = .ok (.iconst 4, 1) := by decide +kernel
theorem dR_walkMaps_107 : decode cR_walkMaps 107 = .ok (.iload_n 3, 1) := by decide +kernel
theorem dR_walkMaps_108 : decode cR_walkMaps 108 = .ok (.invokevirtual 65, 3) := by decide +kernel
theorem dR_walkMaps_111 : decode cR_walkMaps 111 = .ok (.ireturn, 1) := by decide +kernel
theorem dR_walkMaps_112 : decode cR_walkMaps 112 = .ok (.iinc 3 1, 3) := by decide +kernel
theorem dR_walkMaps_115 : decode cR_walkMaps 115 = .ok (.goto (-39), 3) := by decide +kernel
theorem dR_walkMaps_118 : decode cR_walkMaps 118 = .ok (.iload_n 2, 1) := by decide +kernel
theorem dR_walkMaps_119 : decode cR_walkMaps 119 = .ok (.ifCond .eq 26, 3) := by decide +kernel
theorem dR_walkMaps_122 : decode cR_walkMaps 122 = .ok (.aload_n 0, 1) := by decide +kernel
theorem dR_walkMaps_123 : decode cR_walkMaps 123 = .ok (.iload_n 1, 1) := by decide +kernel
theorem dR_walkMaps_124 : decode cR_walkMaps 124 = .ok (.bipush 8, 2) := by decide +kernel
theorem dR_walkMaps_126 : decode cR_walkMaps 126 = .ok (.iadd, 1) := by decide +kernel
theorem dR_walkMaps_127 : decode cR_walkMaps 127 = .ok (.invokevirtual 85, 3) := by decide +kernel
theorem dR_walkMaps_130 : decode cR_walkMaps 130 = .ok (.ifCond .ne 15, 3) := by decide +kernel
theorem dR_walkMaps_133 : decode cR_walkMaps 133 = .ok (.aload_n 0, 1) := by decide +kernel
theorem dR_walkMaps_134 : decode cR_walkMaps 134 = .ok (.iconst 4, 1) := by decide +kernel
theorem dR_walkMaps_135 : decode cR_walkMaps 135 = .ok (.iload_n 1, 1) := by decide +kernel
theorem dR_walkMaps_136 : decode cR_walkMaps 136 = .ok (.bipush 8, 2) := by decide +kernel
theorem dR_walkMaps_138 : decode cR_walkMaps 138 = .ok (.iadd, 1) := by decide +kernel
theorem dR_walkMaps_139 : decode cR_walkMaps 139 = .ok (.invokevirtual 65, 3) := by decide +kernel
theorem dR_walkMaps_142 : decode cR_walkMaps 142 = .ok (.ifCond .eq 7, 3) := by decide +kernel
theorem dR_walkMaps_145 : decode cR_walkMaps 145 = .ok (.iconst 1, 1) := by decide +kernel
theorem dR_walkMaps_146 : decode cR_walkMaps 146 = .ok (.goto 4, 3) := by decide +kernel
theorem dR_walkMaps_149 : decode cR_walkMaps 149 = .ok (.iconst 0, 1) := by decide +kernel
theorem dR_walkMaps_150 : decode cR_walkMaps 150 = .ok (.ireturn, 1) := by decide +kernel
theorem dR_walkNumber_0 : decode cR_walkNumber 0 = .ok (.aload_n 0, 1) := by decide +kernel
theorem dR_walkNumber_1 : decode cR_walkNumber 1 = .ok (.iload_n 1, 1) := by decide +kernel
theorem dR_walkNumber_2 : decode cR_walkNumber 2 = .ok (.invokevirtual 103, 3) := by decide +kernel
theorem dR_walkNumber_5 : decode cR_walkNumber 5 = .ok (.ifCond .ne 5, 3) := by decide +kernel
theorem dR_walkNumber_8 : decode cR_walkNumber 8 = .ok (.iconst 0, 1) := by decide +kernel
theorem dR_walkNumber_9 : decode cR_walkNumber 9 = .ok (.ireturn, 1) := by decide +kernel
theorem dR_walkNumber_10 : decode cR_walkNumber 10 = .ok (.aload_n 0, 1) := by decide +kernel
theorem dR_walkNumber_11 : decode cR_walkNumber 11 = .ok (.iconst 0, 1) := by decide +kernel
theorem dR_walkNumber_12 : decode cR_walkNumber 12 = .ok (.putfield 28, 3) := by decide +kernel
theorem dR_walkNumber_15 : decode cR_walkNumber 15 = .ok (.iconst 0, 1) := by decide +kernel
theorem dR_walkNumber_16 : decode cR_walkNumber 16 = .ok (.istore_n 2, 1) := by decide +kernel
theorem dR_walkNumber_17 : decode cR_walkNumber 17 = .ok (.iload_n 2, 1) := by decide +kernel
theorem dR_walkNumber_18 : decode cR_walkNumber 18 = .ok (.iload_n 1, 1) := by decide +kernel
theorem dR_walkNumber_19 : decode cR_walkNumber 19 = .ok (.if_icmp .ge 27, 3) := by decide +kernel
theorem dR_walkNumber_22 : decode cR_walkNumber 22 = .ok (.aload_n 0, 1) := by decide +kernel
theorem dR_walkNumber_23 : decode cR_walkNumber 23 = .ok (.aload_n 0, 1) := by decide +kernel
theorem dR_walkNumber_24 : decode cR_walkNumber 24 = .ok (.getfield 28, 3) := by decide +kernel
theorem dR_walkNumber_27 : decode cR_walkNumber 27 = .ok (.bipush 10, 2) := by decide +kernel
theorem dR_walkNumber_29 : decode cR_walkNumber 29 = .ok (.imul, 1) := by decide +kernel
theorem dR_walkNumber_30 : decode cR_walkNumber 30 = .ok (.aload_n 0, 1) := by decide +kernel
theorem dR_walkNumber_31 : decode cR_walkNumber 31 = .ok (.iload_n 2, 1) := by decide +kernel
theorem dR_walkNumber_32 : decode cR_walkNumber 32 = .ok (.iload_n 1, 1) := by decide +kernel
theorem dR_walkNumber_33 : decode cR_walkNumber 33 = .ok (.invokevirtual 106, 3) := by decide +kernel
theorem dR_walkNumber_36 : decode cR_walkNumber 36 = .ok (.iadd, 1) := by decide +kernel
theorem dR_walkNumber_37 : decode cR_walkNumber 37 = .ok (.putfield 28, 3) := by decide +kernel
theorem dR_walkNumber_40 : decode cR_walkNumber 40 = .ok (.iinc 2 1, 3) := by decide +kernel
theorem dR_walkNumber_43 : decode cR_walkNumber 43 = .ok (.goto (-26), 3) := by decide +kernel
theorem dR_walkNumber_46 : decode cR_walkNumber 46 = .ok (.aload_n 0, 1) := by decide +kernel
theorem dR_walkNumber_47 : decode cR_walkNumber 47 = .ok (.dup, 1) := by decide +kernel
theorem dR_walkNumber_48 : decode cR_walkNumber 48 = .ok (.getfield 25, 3) := by decide +kernel
theorem dR_walkNumber_51 : decode cR_walkNumber 51 = .ok (.iload_n 1, 1) := by decide +kernel
theorem dR_walkNumber_52 : decode cR_walkNumber 52 = .ok (.invokestatic 110, 3) := by decide +kernel
theorem dR_walkNumber_55 : decode cR_walkNumber 55 = .ok (.iadd, 1) := by decide +kernel
theorem dR_walkNumber_56 : decode cR_walkNumber 56 = .ok (.putfield 25, 3) := by decide +kernel
theorem dR_walkNumber_59 : decode cR_walkNumber 59 = .ok (.iconst 1, 1) := by decide +kernel
theorem dR_walkNumber_60 : decode cR_walkNumber 60 = .ok (.ireturn, 1) := by decide +kernel
theorem dR_walkType_0 : decode cR_walkType 0 = .ok (.aload_n 0, 1) := by decide +kernel
theorem dR_walkType_1 : decode cR_walkType 1 = .ok (.iconst 4, 1) := by decide +kernel
theorem dR_walkType_2 : decode cR_walkType 2 = .ok (.invokevirtual 69, 3) := by decide +kernel
theorem dR_walkType_5 : decode cR_walkType 5 = .ok (.ifCond .ne 5, 3) := by decide +kernel
theorem dR_walkType_8 : decode cR_walkType 8 = .ok (.iconst 0, 1) := by decide +kernel
theorem dR_walkType_9 : decode cR_walkType 9 = .ok (.ireturn, 1) := by decide +kernel
theorem dR_walkType_10 : decode cR_walkType 10 = .ok (.iconst 0, 1) := by decide +kernel
theorem dR_walkType_11 : decode cR_walkType 11 = .ok (.istore_n 1, 1) := by decide +kernel
theorem dR_walkType_12 : decode cR_walkType 12 = .ok (.iload_n 1, 1) := by decide +kernel
theorem dR_walkType_13 : decode cR_walkType 13 = .ok (.getstatic 72, 3) := by decide +kernel
theorem dR_walkType_16 : decode cR_walkType 16 = .ok (.arraylength, 1) := by decide +kernel
theorem dR_walkType_17 : decode cR_walkType 17 = .ok (.if_icmp .ge 34, 3) := by decide +kernel
theorem dR_walkType_20 : decode cR_walkType 20 = .ok (.getstatic 72, 3) := by decide +kernel
theorem dR_walkType_23 : decode cR_walkType 23 = .ok (.iload_n 1, 1) := by decide +kernel
theorem dR_walkType_24 : decode cR_walkType 24 = .ok (.iaload, 1) := by decide +kernel
theorem dR_walkType_25 : decode cR_walkType 25 = .ok (.aload_n 0, 1) := by decide +kernel
theorem dR_walkType_26 : decode cR_walkType 26 = .ok (.getfield 28, 3) := by decide +kernel
theorem dR_walkType_29 : decode cR_walkType 29 = .ok (.if_icmp .ne 16, 3) := by decide +kernel
theorem dR_walkType_32 : decode cR_walkType 32 = .ok (.aload_n 0, 1) := by decide +kernel
theorem dR_walkType_33 : decode cR_walkType 33 = .ok (.getfield 12, 3) := by decide +kernel
theorem dR_walkType_36 : decode cR_walkType 36 = .ok (.aload_n 0, 1) := by decide +kernel
theorem dR_walkType_37 : decode cR_walkType 37 = .ok (.getfield 28, 3) := by decide +kernel
theorem dR_walkType_40 : decode cR_walkType 40 = .ok (.invokevirtual 75, 3) := by decide +kernel
theorem dR_walkType_43 : decode cR_walkType 43 = .ok (.iconst 1, 1) := by decide +kernel
theorem dR_walkType_44 : decode cR_walkType 44 = .ok (.ireturn, 1) := by decide +kernel
theorem dR_walkType_45 : decode cR_walkType 45 = .ok (.iinc 1 1, 3) := by decide +kernel
theorem dR_walkType_48 : decode cR_walkType 48 = .ok (.goto (-36), 3) := by decide +kernel
theorem dR_walkType_51 : decode cR_walkType 51 = .ok (.aload_n 0, 1) := by decide +kernel
theorem dR_walkType_52 : decode cR_walkType 52 = .ok (.iconst 3, 1) := by decide +kernel
theorem dR_walkType_53 : decode cR_walkType 53 = .ok (.iconst 0, 1) := by decide +kernel
theorem dR_walkType_54 : decode cR_walkType 54 = .ok (.invokevirtual 65, 3) := by decide +kernel
theorem dR_walkType_57 : decode cR_walkType 57 = .ok (.ireturn, 1) := by decide +kernel
theorem dT_append_0 : decode cT_append 0 = .ok (.aload_n 0, 1) := by decide +kernel
theorem dT_append_1 : decode cT_append 1 = .ok (.getfield 15, 3) := by decide +kernel
theorem dT_append_4 : decode cT_append 4 = .ok (.sipush 400, 3) := by decide +kernel
theorem dT_append_7 : decode cT_append 7 = .ok (.if_icmp .ge 24, 3) := by decide +kernel
theorem dT_append_10 : decode cT_append 10 = .ok (.aload_n 0, 1) := by decide +kernel
theorem dT_append_11 : decode cT_append 11 = .ok (.getfield 9, 3) := by decide +kernel
theorem dT_append_14 : decode cT_append 14 = .ok (.aload_n 0, 1) := by decide +kernel
theorem dT_append_15 : decode cT_append 15 = .ok (.getfield 15, 3) := by decide +kernel
theorem dT_append_18 : decode cT_append 18 = .ok (.iload_n 1, 1) := by decide +kernel
theorem dT_append_19 : decode cT_append 19 = .ok (.i2b, 1) := by decide +kernel
theorem dT_append_20 : decode cT_append 20 = .ok (.bastore, 1) := by decide +kernel
theorem dT_append_21 : decode cT_append 21 = .ok (.aload_n 0, 1) := by decide +kernel
theorem dT_append_22 : decode cT_append 22 = .ok (.dup, 1) := by decide +kernel
theorem dT_append_23 : decode cT_append 23 = .ok (.getfield 15, 3) := by decide +kernel
theorem dT_append_26 : decode cT_append 26 = .ok (.iconst 1, 1) := by decide +kernel
theorem dT_append_27 : decode cT_append 27 = .ok (.iadd, 1) := by decide +kernel
theorem dT_append_28 : decode cT_append 28 = .ok (.putfield 15, 3) := by decide +kernel
theorem dT_append_31 : decode cT_append 31 = .ok (.return_, 1) := by decide +kernel
theorem dT_appendDigits_0 : decode cT_appendDigits 0 = .ok (.iload_n 3, 1) := by decide +kernel
theorem dT_appendDigits_1 : decode cT_appendDigits 1 = .ok (.iconst 2, 1) := by decide +kernel
theorem dT_appendDigits_2 : decode cT_appendDigits 2 = .ok (.irem, 1) := by decide +kernel
theorem dT_appendDigits_3 : decode cT_appendDigits 3 = .ok (.istore 4, 2) := by decide +kernel
theorem dT_appendDigits_5 : decode cT_appendDigits 5 = .ok (.iload 4, 2) := by decide +kernel
theorem dT_appendDigits_7 : decode cT_appendDigits 7 = .ok (.ifCond .eq 14, 3) := by decide +kernel
theorem dT_appendDigits_10 : decode cT_appendDigits 10 = .ok (.aload_n 0, 1) := by decide +kernel
theorem dT_appendDigits_11 : decode cT_appendDigits 11 = .ok (.iconst 0, 1) := by decide +kernel
theorem dT_appendDigits_12 : decode cT_appendDigits 12 = .ok (.aload_n 1, 1) := by decide +kernel
theorem dT_appendDigits_13 : decode cT_appendDigits 13 = .ok (.iload_n 2, 1) := by decide +kernel
theorem dT_appendDigits_14 : decode cT_appendDigits 14 = .ok (.iconst 0, 1) := by decide +kernel
theorem dT_appendDigits_15 : decode cT_appendDigits 15 = .ok (.invokevirtual 84, 3) := by decide +kernel
theorem dT_appendDigits_18 : decode cT_appendDigits 18 = .ok (.invokevirtual 81, 3) := by decide +kernel
theorem dT_appendDigits_21 : decode cT_appendDigits 21 = .ok (.iload 4, 2) := by decide +kernel
theorem dT_appendDigits_23 : decode cT_appendDigits 23 = .ok (.istore 5, 2) := by decide +kernel
theorem dT_appendDigits_25 : decode cT_appendDigits 25 = .ok (.iload 5, 2) := by decide +kernel
theorem dT_appendDigits_27 : decode cT_appendDigits 27 = .ok (.iconst 1, 1) := by decide +kernel
theorem dT_appendDigits_28 : decode cT_appendDigits 28 = .ok (.iadd, 1) := by decide +kernel
theorem dT_appendDigits_29 : decode cT_appendDigits 29 = .ok (.iload_n 3, 1) := by decide +kernel
theorem dT_appendDigits_30 : decode cT_appendDigits 30 = .ok (.if_icmp .ge 29, 3) := by decide +kernel
theorem dT_appendDigits_33 : decode cT_appendDigits 33 = .ok (.aload_n 0, 1) := by decide +kernel
theorem dT_appendDigits_34 : decode cT_appendDigits 34 = .ok (.aload_n 1, 1) := by decide +kernel
theorem dT_appendDigits_35 : decode cT_appendDigits 35 = .ok (.iload_n 2, 1) := by decide +kernel
theorem dT_appendDigits_36 : decode cT_appendDigits 36 = .ok (.iload 5, 2) := by decide +kernel
theorem dT_appendDigits_38 : decode cT_appendDigits 38 = .ok (.invokevirtual 84, 3) := by decide +kernel
theorem dT_appendDigits_41 : decode cT_appendDigits 41 = .ok (.aload_n 1, 1) := by decide +kernel
theorem dT_appendDigits_42 : decode cT_appendDigits 42 = .ok (.iload_n 2, 1) := by decide +kernel
theorem dT_appendDigits_43 : decode cT_appendDigits 43 = .ok (.iload 5, 2) := by decide +kernel
theorem dT_appendDigits_45 : decode cT_appendDigits 45 = .ok (.iconst 1, 1) := by decide +kernel
theorem dT_appendDigits_46 : decode cT_appendDigits 46 = .ok (.iadd, 1) := by decide +kernel
theorem dT_appendDigits_47 : decode cT_appendDigits 47 = .ok (.invokevirtual 84, 3) := by decide +kernel
theorem dT_appendDigits_50 : decode cT_appendDigits 50 = .ok (.invokevirtual 81, 3) := by decide +kernel
theorem dT_appendDigits_53 : decode cT_appendDigits 53 = .ok (.iinc 5 2, 3) := by decide +kernel
theorem dT_appendDigits_56 : decode cT_appendDigits 56 = .ok (.goto (-31), 3) := by decide +kernel
theorem dT_appendDigits_59 : decode cT_appendDigits 59 = .ok (.return_, 1) := by decide +kernel
theorem dT_appendField_0 : decode cT_appendField 0 = .ok (.aload_n 1, 1) := by decide +kernel
theorem dT_appendField_1 : decode cT_appendField 1 = .ok (.getfield 62, 3) := by decide +kernel
theorem dT_appendField_4 : decode cT_appendField 4 = .ok (.iload_n 2, 1) := by decide +kernel
theorem dT_appendField_5 : decode cT_appendField 5 = .ok (.iaload, 1) := by decide +kernel
theorem dT_appendField_6 : decode cT_appendField 6 = .ok (.istore_n 3, 1) := by decide +kernel
theorem dT_appendField_7 : decode cT_appendField 7 = .ok (.getstatic 65, 3) := by decide +kernel
theorem dT_appendField_10 : decode cT_appendField 10 = .ok (.iload_n 2, 1) := by decide +kernel
theorem dT_appendField_11 : decode cT_appendField 11 = .ok (.iaload, 1) := by decide +kernel
theorem dT_appendField_12 : decode cT_appendField 12 = .ok (.ifCond .eq 13, 3) := by decide +kernel
theorem dT_appendField_15 : decode cT_appendField 15 = .ok (.aload_n 0, 1) := by decide +kernel
theorem dT_appendField_16 : decode cT_appendField 16 = .ok (.iload_n 3, 1) := by decide +kernel
theorem dT_appendField_17 : decode cT_appendField 17 = .ok (.getstatic 65, 3) := by decide +kernel
theorem dT_appendField_20 : decode cT_appendField 20 = .ok (.iload_n 2, 1) := by decide +kernel
theorem dT_appendField_21 : decode cT_appendField 21 = .ok (.iaload, 1) := by decide +kernel
theorem dT_appendField_22 : decode cT_appendField 22 = .ok (.invokevirtual 24, 3) := by decide +kernel
theorem dT_appendField_25 : decode cT_appendField 25 = .ok (.getstatic 68, 3) := by decide +kernel
theorem dT_appendField_28 : decode cT_appendField 28 = .ok (.iload_n 2, 1) := by decide +kernel
theorem dT_appendField_29 : decode cT_appendField 29 = .ok (.iaload, 1) := by decide +kernel
theorem dT_appendField_30 : decode cT_appendField 30 = .ok (.ifCond .eq 13, 3) := by decide +kernel
theorem dT_appendField_33 : decode cT_appendField 33 = .ok (.aload_n 0, 1) := by decide +kernel
theorem dT_appendField_34 : decode cT_appendField 34 = .ok (.aload_n 1, 1) := by decide +kernel
theorem dT_appendField_35 : decode cT_appendField 35 = .ok (.iload_n 2, 1) := by decide +kernel
theorem dT_appendField_36 : decode cT_appendField 36 = .ok (.iload_n 3, 1) := by decide +kernel
theorem dT_appendField_37 : decode cT_appendField 37 = .ok (.invokevirtual 71, 3) := by decide +kernel
theorem dT_appendField_40 : decode cT_appendField 40 = .ok (.goto 10, 3) := by decide +kernel
theorem dT_appendField_43 : decode cT_appendField 43 = .ok (.aload_n 0, 1) := by decide +kernel
theorem dT_appendField_44 : decode cT_appendField 44 = .ok (.aload_n 1, 1) := by decide +kernel
theorem dT_appendField_45 : decode cT_appendField 45 = .ok (.iload_n 2, 1) := by decide +kernel
theorem dT_appendField_46 : decode cT_appendField 46 = .ok (.iload_n 3, 1) := by decide +kernel
theorem dT_appendField_47 : decode cT_appendField 47 = .ok (.invokevirtual 75, 3) := by decide +kernel
theorem dT_appendField_50 : decode cT_appendField 50 = .ok (.return_, 1) := by decide +kernel
theorem dT_appendLetters_0 : decode cT_appendLetters 0 = .ok (.iconst 0, 1) := by decide +kernel
theorem dT_appendLetters_1 : decode cT_appendLetters 1 = .ok (.istore 4, 2) := by decide +kernel
theorem dT_appendLetters_3 : decode cT_appendLetters 3 = .ok (.iload 4, 2) := by decide +kernel
theorem dT_appendLetters_5 : decode cT_appendLetters 5 = .ok (.iload_n 3, 1) := by decide +kernel
theorem dT_appendLetters_6 : decode cT_appendLetters 6 = .ok (.if_icmp .ge 20, 3) := by decide +kernel
theorem dT_appendLetters_9 : decode cT_appendLetters 9 = .ok (.aload_n 0, 1) := by decide +kernel
theorem dT_appendLetters_10 : decode cT_appendLetters 10 = .ok (.aload_n 1, 1) := by decide +kernel
theorem dT_appendLetters_11 : decode cT_appendLetters 11 = .ok (.iload_n 2, 1) := by decide +kernel
theorem dT_appendLetters_12 : decode cT_appendLetters 12 = .ok (.iload 4, 2) := by decide +kernel
theorem dT_appendLetters_14 : decode cT_appendLetters 14 = .ok (.invokevirtual 84, 3) := by decide +kernel
theorem dT_appendLetters_17 : decode cT_appendLetters 17 = .ok (.invokevirtual 44, 3) := by decide +kernel
theorem dT_appendLetters_20 : decode cT_appendLetters 20 = .ok (.iinc 4 1, 3) := by decide +kernel
theorem dT_appendLetters_23 : decode cT_appendLetters 23 = .ok (.goto (-20), 3) := by decide +kernel
theorem dT_appendLetters_26 : decode cT_appendLetters 26 = .ok (.return_, 1) := by decide +kernel
theorem dT_appendMaps_0 : decode cT_appendMaps 0 = .ok (.aload_n 1, 1) := by decide +kernel
theorem dT_appendMaps_1 : decode cT_appendMaps 1 = .ok (.invokestatic 40, 3) := by decide +kernel
theorem dT_appendMaps_4 : decode cT_appendMaps 4 = .ok (.istore_n 2, 1) := by decide +kernel
theorem dT_appendMaps_5 : decode cT_appendMaps 5 = .ok (.aload_n 0, 1) := by decide +kernel
theorem dT_appendMaps_6 : decode cT_appendMaps 6 = .ok (.getfield 15, 3) := by decide +kernel
theorem dT_appendMaps_9 : decode cT_appendMaps 9 = .ok (.istore_n 3, 1) := by decide +kernel
theorem dT_appendMaps_10 : decode cT_appendMaps 10 = .ok (.iconst 0, 1) := by decide +kernel
theorem dT_appendMaps_11 : decode cT_appendMaps 11 = .ok (.istore 4, 2) := by decide +kernel
theorem dT_appendMaps_13 : decode cT_appendMaps 13 = .ok (.iload 4, 2) := by decide +kernel
theorem dT_appendMaps_15 : decode cT_appendMaps 15 = .ok (.iload_n 2, 1) := by decide +kernel
theorem dT_appendMaps_16 : decode cT_appendMaps 16 = .ok (.ifCond .eq 8, 3) := by decide +kernel
theorem dT_appendMaps_19 : decode cT_appendMaps 19 = .ok (.bipush 16, 2) := by decide +kernel
theorem dT_appendMaps_21 : decode cT_appendMaps 21 = .ok (.goto 5, 3) := by decide +kernel
theorem dT_appendMaps_24 : decode cT_appendMaps 24 = .ok (.bipush 8, 2) := by decide +kernel
theorem dT_appendMaps_26 : decode cT_appendMaps 26 = .ok (.if_icmp .ge 14, 3) := by decide +kernel
theorem dT_appendMaps_29 : decode cT_appendMaps 29 = .ok (.aload_n 0, 1) := by decide +kernel
theorem dT_appendMaps_30 : decode cT_appendMaps 30 = .ok (.iconst 0, 1) := by decide +kernel
theorem dT_appendMaps_31 : decode cT_appendMaps 31 = .ok (.invokevirtual 44, 3) := by decide +kernel
theorem dT_appendMaps_34 : decode cT_appendMaps 34 = .ok (.iinc 4 1, 3) := by decide +kernel
theorem dT_appendMaps_37 : decode cT_appendMaps 37 = .ok (.goto (-24), 3) := by decide +kernel
theorem dT_appendMaps_40 : decode cT_appendMaps 40 = .ok (.iload_n 2, 1) := by decide +kernel
theorem dT_appendMaps_41 : decode cT_appendMaps 41 = .ok (.ifCond .eq 11, 3) := by decide +kernel
theorem dT_appendMaps_44 : decode cT_appendMaps 44 = .ok (.aload_n 0, 1) := by decide +kernel
theorem dT_appendMaps_45 : decode cT_appendMaps 45 = .ok (.iload_n 3, 1) := by decide +kernel
theorem dT_appendMaps_46 : decode cT_appendMaps 46 = .ok (.sipush 128, 3) := by decide +kernel
theorem dT_appendMaps_49 : decode cT_appendMaps 49 = .ok (.invokevirtual 48, 3) := by decide +kernel
theorem dT_appendMaps_52 : decode cT_appendMaps 52 = .ok (.iconst 0, 1) := by decide +kernel
theorem dT_appendMaps_53 : decode cT_appendMaps 53 = .ok (.istore 4, 2) := by decide +kernel
theorem dT_appendMaps_55 : decode cT_appendMaps 55 = .ok (.iload 4, 2) := by decide +kernel
theorem dT_appendMaps_57 : decode cT_appendMaps 57 = .ok (.bipush 16, 2) := by decide +kernel
theorem dT_appendMaps_59 : decode cT_appendMaps 59 = .ok (.if_icmp .ge 42, 3) := by decide +kernel
theorem dT_appendMaps_62 : decode cT_appendMaps 62 = .ok (.aload_n 1, 1) := by decide +kernel
theorem dT_appendMaps_63 : decode cT_appendMaps 63 = .ok (.iload 4, 2) := by decide +kernel
theorem dT_appendMaps_65 : decode cT_appendMaps 65 = .ok (.invokevirtual 32, 3) := by decide +kernel
theorem dT_appendMaps_68 : decode cT_appendMaps 68 = .ok (.ifCond .eq 27, 3) := by decide +kernel
theorem dT_appendMaps_71 : decode cT_appendMaps 71 = .ok (.aload_n 0, 1) := by decide +kernel
theorem dT_appendMaps_72 : decode cT_appendMaps 72 = .ok (.iload_n 3, 1) := by decide +kernel
theorem dT_appendMaps_73 : decode cT_appendMaps 73 = .ok (.getstatic 51, 3) := by decide +kernel
theorem dT_appendMaps_76 : decode cT_appendMaps 76 = .ok (.iload 4, 2) := by decide +kernel
theorem dT_appendMaps_78 : decode cT_appendMaps 78 = .ok (.iaload, 1) := by decide +kernel
theorem dT_appendMaps_79 : decode cT_appendMaps 79 = .ok (.invokestatic 55, 3) := by decide +kernel
theorem dT_appendMaps_82 : decode cT_appendMaps 82 = .ok (.iadd, 1) := by decide +kernel
theorem dT_appendMaps_83 : decode cT_appendMaps 83 = .ok (.getstatic 51, 3) := by decide +kernel
theorem dT_appendMaps_86 : decode cT_appendMaps 86 = .ok (.iload 4, 2) := by decide +kernel
theorem dT_appendMaps_88 : decode cT_appendMaps 88 = .ok (.iaload, 1) := by decide +kernel
theorem dT_appendMaps_89 : decode cT_appendMaps 89 = .ok (.invokestatic 59, 3) := by decide +kernel
theorem dT_appendMaps_92 : decode cT_appendMaps 92 = .ok (.invokevirtual 48, 3) := by decide +kernel
theorem dT_appendMaps_95 : decode cT_appendMaps 95 = .ok (.iinc 4 1, 3) := by decide +kernel
theorem dT_appendMaps_98 : decode cT_appendMaps 98 = .ok (.goto (-43), 3) := by decide +kernel
theorem dT_appendMaps_101 : decode cT_appendMaps 101 = .ok (.return_, 1) := by decide +kernel
theorem dT_appendNumber_0 : decode cT_appendNumber 0 = .ok (.iload_n 2, 1) := by decide +kernel
theorem dT_appendNumber_1 : decode cT_appendNumber 1 = .ok (.invokestatic 78, 3) := by decide +kernel
theorem dT_appendNumber_4 : decode cT_appendNumber 4 = .ok (.iconst 2, 1) := by decide +kernel
theorem dT_appendNumber_5 : decode cT_appendNumber 5 = .ok (.if_icmp .ne 22, 3) := by decide +kernel
theorem dT_appendNumber_8 : decode cT_appendNumber 8 = .ok (.aload_n 0, 1) := by decide +kernel
theorem dT_appendNumber_9 : decode cT_appendNumber 9 = .ok (.iload_n 1, 1) := by decide +kernel
theorem dT_appendNumber_10 : decode cT_appendNumber 10 = .ok (.sipush 1000, 3) := by decide +kernel
theorem dT_appendNumber_13 : decode cT_appendNumber 13 = .ok (.idiv, 1) := by decide +kernel
theorem dT_appendNumber_14 : decode cT_appendNumber 14 = .ok (.bipush 10, 2) := by decide +kernel
theorem dT_appendNumber_16 : decode cT_appendNumber 16 = .ok (.irem, 1) := by decide +kernel
theorem dT_appendNumber_17 : decode cT_appendNumber 17 = .ok (.iload_n 1, 1) := by decide +kernel
theorem dT_appendNumber_18 : decode cT_appendNumber 18 = .ok (.bipush 100, 2) := by decide +kernel
theorem dT_appendNumber_20 : decode cT_appendNumber 20 = .ok (.idiv, 1) := by decide +kernel
theorem dT_appendNumber_21 : decode cT_appendNumber 21 = .ok (.bipush 10, 2) := by decide +kernel
theorem dT_appendNumber_23 : decode cT_appendNumber 23 = .ok (.irem, 1) := by decide +kernel
theorem dT_appendNumber_24 : decode cT_appendNumber 24 = .ok (.invokevirtual 81, 3) := by decide +kernel
theorem dT_appendNumber_27 : decode cT_appendNumber 27 = .ok (.aload_n 0, 1) := by decide +kernel
theorem dT_appendNumber_28 : decode cT_appendNumber 28 = .ok (.iload_n 1, 1) := by decide +kernel
theorem dT_appendNumber_29 : decode cT_appendNumber 29 = .ok (.bipush 10, 2) := by decide +kernel
theorem dT_appendNumber_31 : decode cT_appendNumber 31 = .ok (.idiv, 1) := by decide +kernel
theorem dT_appendNumber_32 : decode cT_appendNumber 32 = .ok (.bipush 10, 2) := by decide +kernel
theorem dT_appendNumber_34 : decode cT_appendNumber 34 = .ok (.irem, 1) := by decide +kernel
theorem dT_appendNumber_35 : decode cT_appendNumber 35 = .ok (.iload_n 1, 1) := by decide +kernel
theorem dT_appendNumber_36 : decode cT_appendNumber 36 = .ok (.bipush 10, 2) := by decide +kernel
theorem dT_appendNumber_38 : decode cT_appendNumber 38 = .ok (.irem, 1) := by decide +kernel
theorem dT_appendNumber_39 : decode cT_appendNumber 39 = .ok (.invokevirtual 81, 3) := by decide +kernel
theorem dT_appendNumber_42 : decode cT_appendNumber 42 = .ok (.return_, 1) := by decide +kernel
theorem dT_appendPair_0 : decode cT_appendPair 0 = .ok (.aload_n 0, 1) := by decide +kernel
theorem dT_appendPair_1 : decode cT_appendPair 1 = .ok (.iload_n 1, 1) := by decide +kernel
theorem dT_appendPair_2 : decode cT_appendPair 2 = .ok (.iconst 4, 1) := by decide +kernel
theorem dT_appendPair_3 : decode cT_appendPair 3 = .ok (.ishl, 1) := by decide +kernel
theorem dT_appendPair_4 : decode cT_appendPair 4 = .ok (.iload_n 2, 1) := by decide +kernel
theorem dT_appendPair_5 : decode cT_appendPair 5 = .ok (.ior, 1) := by decide +kernel
theorem dT_appendPair_6 : decode cT_appendPair 6 = .ok (.invokevirtual 44, 3) := by decide +kernel
theorem dT_appendPair_9 : decode cT_appendPair 9 = .ok (.return_, 1) := by decide +kernel
theorem dT_byteAt_0 : decode cT_byteAt 0 = .ok (.aload_n 0, 1) := by decide +kernel
theorem dT_byteAt_1 : decode cT_byteAt 1 = .ok (.getfield 9, 3) := by decide +kernel
theorem dT_byteAt_4 : decode cT_byteAt 4 = .ok (.iload_n 1, 1) := by decide +kernel
theorem dT_byteAt_5 : decode cT_byteAt 5 = .ok (.baload, 1) := by decide +kernel
theorem dT_byteAt_6 : decode cT_byteAt 6 = .ok (.sipush 255, 3) := by decide +kernel
theorem dT_byteAt_9 : decode cT_byteAt 9 = .ok (.iand, 1) := by decide +kernel
theorem dT_byteAt_10 : decode cT_byteAt 10 = .ok (.ireturn, 1) := by decide +kernel
theorem dT_flip_0 : decode cT_flip 0 = .ok (.aload_n 0, 1) := by decide +kernel
theorem dT_flip_1 : decode cT_flip 1 = .ok (.getfield 9, 3) := by decide +kernel
theorem dT_flip_4 : decode cT_flip 4 = .ok (.iload_n 1, 1) := by decide +kernel
theorem dT_flip_5 : decode cT_flip 5 = .ok (.aload_n 0, 1) := by decide +kernel
theorem dT_flip_6 : decode cT_flip 6 = .ok (.getfield 9, 3) := by decide +kernel
theorem dT_flip_9 : decode cT_flip 9 = .ok (.iload_n 1, 1) := by decide +kernel
theorem dT_flip_10 : decode cT_flip 10 = .ok (.baload, 1) := by decide +kernel
theorem dT_flip_11 : decode cT_flip 11 = .ok (.iload_n 2, 1) := by decide +kernel
theorem dT_flip_12 : decode cT_flip 12 = .ok (.ixor, 1) := by decide +kernel
theorem dT_flip_13 : decode cT_flip 13 = .ok (.i2b, 1) := by decide +kernel
theorem dT_flip_14 : decode cT_flip 14 = .ok (.bastore, 1) := by decide +kernel
theorem dT_flip_15 : decode cT_flip 15 = .ok (.return_, 1) := by decide +kernel
theorem dT_hasFieldOfSecondMap_0 : decode cT_hasFieldOfSecondMap 0 = .ok (.iconst 0, 1) := by decide +kernel
theorem dT_hasFieldOfSecondMap_1 : decode cT_hasFieldOfSecondMap 1 = .ok (.istore_n 1, 1) := by decide +kernel
theorem dT_hasFieldOfSecondMap_2 : decode cT_hasFieldOfSecondMap 2 = .ok (.iload_n 1, 1) := by decide +kernel
theorem dT_hasFieldOfSecondMap_3 : decode cT_hasFieldOfSecondMap 3 = .ok (.bipush 16, 2) := by decide +kernel
theorem dT_hasFieldOfSecondMap_5 : decode cT_hasFieldOfSecondMap 5 = .ok (.if_icmp .ge 29, 3) := by decide +kernel
theorem dT_hasFieldOfSecondMap_8 : decode cT_hasFieldOfSecondMap 8 = .ok (.getstatic 51, 3) := by decide +kernel
theorem dT_hasFieldOfSecondMap_11 : decode cT_hasFieldOfSecondMap 11 = .ok (.iload_n 1, 1) := by decide +kernel
theorem dT_hasFieldOfSecondMap_12 : decode cT_hasFieldOfSecondMap 12 = .ok (.iaload, 1) := by decide +kernel
theorem dT_hasFieldOfSecondMap_13 : decode cT_hasFieldOfSecondMap 13 = .ok (.bipush 64, 2) := by decide +kernel
theorem dT_hasFieldOfSecondMap_15 : decode cT_hasFieldOfSecondMap 15 = .ok (.if_icmp .le 13, 3) := by decide +kernel
theorem dT_hasFieldOfSecondMap_18 : decode cT_hasFieldOfSecondMap 18 = .ok (.aload_n 0, 1) := by decide +kernel
theorem dT_hasFieldOfSecondMap_19 : decode cT_hasFieldOfSecondMap 19 = .ok (.iload_n 1, 1) := by decide +kernel
theorem dT_hasFieldOfSecondMap_20 : decode cT_hasFieldOfSecondMap 20 = .ok (.invokevirtual 32, 3) := by decide +kernel
theorem dT_hasFieldOfSecondMap_23 : decode cT_hasFieldOfSecondMap 23 = .ok (.ifCond .eq 5, 3) := by decide +kernel
theorem dT_hasFieldOfSecondMap_26 : decode cT_hasFieldOfSecondMap 26 = .ok (.iconst 1, 1) := by decide +kernel
theorem dT_hasFieldOfSecondMap_27 : decode cT_hasFieldOfSecondMap 27 = .ok (.ireturn, 1) := by decide +kernel
theorem dT_hasFieldOfSecondMap_28 : decode cT_hasFieldOfSecondMap 28 = .ok (.iinc 1 1, 3) := by decide +kernel
theorem dT_hasFieldOfSecondMap_31 : decode cT_hasFieldOfSecondMap 31 = .ok (.goto (-29), 3) := by decide +kernel
theorem dT_hasFieldOfSecondMap_34 : decode cT_hasFieldOfSecondMap 34 = .ok (.iconst 0, 1) := by decide +kernel
theorem dT_hasFieldOfSecondMap_35 : decode cT_hasFieldOfSecondMap 35 = .ok (.ireturn, 1) := by decide +kernel
theorem dT_init_0 : decode cT_init 0 = .ok (.aload_n 0, 1) := by decide +kernel
theorem dT_init_1 : decode cT_init 1 = .ok (.invokespecial 3, 3) := by decide +kernel
theorem dT_init_4 : decode cT_init 4 = .ok (.aload_n 0, 1) := by decide +kernel
theorem dT_init_5 : decode cT_init 5 = .ok (.sipush 400, 3) := by decide +kernel
theorem dT_init_8 : decode cT_init 8 = .ok (.newarray .byte, 2) := by decide +kernel
theorem dT_init_10 : decode cT_init 10 = .ok (.putfield 9, 3) := by decide +kernel
theorem dT_init_13 : decode cT_init 13 = .ok (.aload_n 0, 1) := by decide +kernel
theorem dT_init_14 : decode cT_init 14 = .ok (.iconst 0, 1) := by decide +kernel
theorem dT_init_15 : decode cT_init 15 = .ok (.putfield 15, 3) := by decide +kernel
theorem dT_init_18 : decode cT_init 18 = .ok (.return_, 1) := by decide +kernel
theorem dT_write_0 : decode cT_write 0 = .ok (.aload_n 0, 1) := by decide +kernel
theorem dT_write_1 : decode cT_write 1 = .ok (.iconst 0, 1) := by decide +kernel
theorem dT_write_2 : decode cT_write 2 = .ok (.putfield 15, 3) := by decide +kernel
theorem dT_write_5 : decode cT_write 5 = .ok (.aload_n 0, 1) := by decide +kernel
theorem dT_write_6 : decode cT_write 6 = .ok (.aload_n 1, 1) := by decide +kernel
theorem dT_write_7 : decode cT_write 7 = .ok (.getfield 19, 3) := by decide +kernel
theorem dT_write_10 : decode cT_write 10 = .ok (.iconst 4, 1) := by decide +kernel
theorem dT_write_11 : decode cT_write 11 = .ok (.invokevirtual 24, 3) := by decide +kernel
theorem dT_write_14 : decode cT_write 14 = .ok (.aload_n 0, 1) := by decide +kernel
theorem dT_write_15 : decode cT_write 15 = .ok (.aload_n 1, 1) := by decide +kernel
theorem dT_write_16 : decode cT_write 16 = .ok (.invokevirtual 28, 3) := by decide +kernel
theorem dT_write_19 : decode cT_write 19 = .ok (.iconst 0, 1) := by decide +kernel
theorem dT_write_20 : decode cT_write 20 = .ok (.istore_n 2, 1) := by decide +kernel
theorem dT_write_21 : decode cT_write 21 = .ok (.iload_n 2, 1) := by decide +kernel
theorem dT_write_22 : decode cT_write 22 = .ok (.bipush 16, 2) := by decide +kernel
theorem dT_write_24 : decode cT_write 24 = .ok (.if_icmp .ge 23, 3) := by decide +kernel
theorem dT_write_27 : decode cT_write 27 = .ok (.aload_n 1, 1) := by decide +kernel
theorem dT_write_28 : decode cT_write 28 = .ok (.iload_n 2, 1) := by decide +kernel
theorem dT_write_29 : decode cT_write 29 = .ok (.invokevirtual 32, 3) := by decide +kernel
theorem dT_write_32 : decode cT_write 32 = .ok (.ifCond .eq 9, 3) := by decide +kernel
theorem dT_write_35 : decode cT_write 35 = .ok (.aload_n 0, 1) := by decide +kernel
theorem dT_write_36 : decode cT_write 36 = .ok (.aload_n 1, 1) := by decide +kernel
theorem dT_write_37 : decode cT_write 37 = .ok (.iload_n 2, 1) := by decide +kernel
theorem dT_write_38 : decode cT_write 38 = .ok (.invokevirtual 36, 3) := by decide +kernel
theorem dT_write_41 : decode cT_write 41 = .ok (.iinc 2 1, 3) := by decide +kernel
theorem dT_write_44 : decode cT_write 44 = .ok (.goto (-23), 3) := by decide +kernel
theorem dT_write_47 : decode cT_write 47 = .ok (.return_, 1) := by decide +kernel
