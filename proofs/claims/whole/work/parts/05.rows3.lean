theorem dX8_of_1 : decode cX8_of 1 = .ok (.bipush 7, 2) := by decide +kernel
theorem dX8_of_3 : decode cX8_of 3 = .ok (.bipush 8, 2) := by decide +kernel
theorem dX8_of_5 : decode cX8_of 5 = .ok (.invokestatic 109, 3) := by decide +kernel
theorem dX8_of_8 : decode cX8_of 8 = .ok (.ifCond .eq 38, 3) := by decide +kernel
theorem dX8_of_11 : decode cX8_of 11 = .ok (.aload_n 0, 1) := by decide +kernel
theorem dX8_of_12 : decode cX8_of 12 = .ok (.iload_n 1, 1) := by decide +kernel
theorem dX8_of_13 : decode cX8_of 13 = .ok (.invokevirtual 146, 3) := by decide +kernel
theorem dX8_of_16 : decode cX8_of 16 = .ok (.ifCond .eq 27, 3) := by decide +kernel
theorem dX8_of_19 : decode cX8_of 19 = .ok (.iload_n 2, 1) := by decide +kernel
theorem dX8_of_20 : decode cX8_of 20 = .ok (.bipush 7, 2) := by decide +kernel
theorem dX8_of_22 : decode cX8_of 22 = .ok (.if_icmp .ne 12, 3) := by decide +kernel
theorem dX8_of_25 : decode cX8_of 25 = .ok (.aload_n 0, 1) := by decide +kernel
theorem dX8_of_26 : decode cX8_of 26 = .ok (.getfield 21, 3) := by decide +kernel
theorem dX8_of_29 : decode cX8_of 29 = .ok (.iload_n 1, 1) := by decide +kernel
theorem dX8_of_30 : decode cX8_of 30 = .ok (.iaload, 1) := by decide +kernel
theorem dX8_of_31 : decode cX8_of 31 = .ok (.goto 14, 3) := by decide +kernel
theorem dX8_of_34 : decode cX8_of 34 = .ok (.aload_n 0, 1) := by decide +kernel
theorem dX8_of_35 : decode cX8_of 35 = .ok (.getfield 24, 3) := by decide +kernel
theorem dX8_of_38 : decode cX8_of 38 = .ok (.iload_n 1, 1) := by decide +kernel
theorem dX8_of_39 : decode cX8_of 39 = .ok (.iaload, 1) := by decide +kernel
theorem dX8_of_40 : decode cX8_of 40 = .ok (.goto 5, 3) := by decide +kernel
theorem dX8_of_43 : decode cX8_of 43 = .ok (.ldc 156, 2) := by decide +kernel
theorem dX8_of_45 : decode cX8_of 45 = .ok (.ireturn, 1) := by decide +kernel
theorem dX8_of_46 : decode cX8_of 46 = .ok (.aload_n 0, 1) := by decide +kernel
theorem dX8_of_47 : decode cX8_of 47 = .ok (.iload_n 1, 1) := by decide +kernel
theorem dX8_of_48 : decode cX8_of 48 = .ok (.iload_n 2, 1) := by decide +kernel
theorem dX8_of_49 : decode cX8_of 49 = .ok (.invokevirtual 149, 3) := by decide +kernel
theorem dX8_of_52 : decode cX8_of 52 = .ok (.ifCond .eq 12, 3) := by decide +kernel
theorem dX8_of_55 : decode cX8_of 55 = .ok (.aload_n 0, 1) := by decide +kernel
theorem dX8_of_56 : decode cX8_of 56 = .ok (.iload_n 1, 1) := by decide +kernel
theorem dX8_of_57 : decode cX8_of 57 = .ok (.iload_n 2, 1) := by decide +kernel
theorem dX8_of_58 : decode cX8_of 58 = .ok (.invokevirtual 157, 3) := by decide +kernel
theorem dX8_of_61 : decode cX8_of 61 = .ok (.goto 5, 3) := by decide +kernel
theorem dX8_of_64 : decode cX8_of 64 = .ok (.ldc 156, 2) := by decide +kernel
theorem dX8_of_66 : decode cX8_of 66 = .ok (.ireturn, 1) := by decide +kernel
theorem dX8_undo_0 : decode cX8_undo 0 = .ok (.aload_n 0, 1) := by decide +kernel
theorem dX8_undo_1 : decode cX8_undo 1 = .ok (.getfield 164, 3) := by decide +kernel
theorem dX8_undo_4 : decode cX8_undo 4 = .ok (.ifCond .ne 6, 3) := by decide +kernel
theorem dX8_undo_7 : decode cX8_undo 7 = .ok (.bipush (-5), 2) := by decide +kernel
theorem dX8_undo_9 : decode cX8_undo 9 = .ok (.ireturn, 1) := by decide +kernel
theorem dX8_undo_10 : decode cX8_undo 10 = .ok (.aload_n 0, 1) := by decide +kernel
theorem dX8_undo_11 : decode cX8_undo 11 = .ok (.dup, 1) := by decide +kernel
theorem dX8_undo_12 : decode cX8_undo 12 = .ok (.getfield 164, 3) := by decide +kernel
theorem dX8_undo_15 : decode cX8_undo 15 = .ok (.iconst 1, 1) := by decide +kernel
theorem dX8_undo_16 : decode cX8_undo 16 = .ok (.isub, 1) := by decide +kernel
theorem dX8_undo_17 : decode cX8_undo 17 = .ok (.putfield 164, 3) := by decide +kernel
theorem dX8_undo_20 : decode cX8_undo 20 = .ok (.aload_n 0, 1) := by decide +kernel
theorem dX8_undo_21 : decode cX8_undo 21 = .ok (.aload_n 0, 1) := by decide +kernel
theorem dX8_undo_22 : decode cX8_undo 22 = .ok (.getfield 78, 3) := by decide +kernel
theorem dX8_undo_25 : decode cX8_undo 25 = .ok (.iconst 4, 1) := by decide +kernel
theorem dX8_undo_26 : decode cX8_undo 26 = .ok (.aload_n 0, 1) := by decide +kernel
theorem dX8_undo_27 : decode cX8_undo 27 = .ok (.getfield 164, 3) := by decide +kernel
theorem dX8_undo_30 : decode cX8_undo 30 = .ok (.imul, 1) := by decide +kernel
theorem dX8_undo_31 : decode cX8_undo 31 = .ok (.iaload, 1) := by decide +kernel
theorem dX8_undo_32 : decode cX8_undo 32 = .ok (.aload_n 0, 1) := by decide +kernel
theorem dX8_undo_33 : decode cX8_undo 33 = .ok (.getfield 78, 3) := by decide +kernel
theorem dX8_undo_36 : decode cX8_undo 36 = .ok (.iconst 4, 1) := by decide +kernel
theorem dX8_undo_37 : decode cX8_undo 37 = .ok (.aload_n 0, 1) := by decide +kernel
theorem dX8_undo_38 : decode cX8_undo 38 = .ok (.getfield 164, 3) := by decide +kernel
theorem dX8_undo_41 : decode cX8_undo 41 = .ok (.imul, 1) := by decide +kernel
theorem dX8_undo_42 : decode cX8_undo 42 = .ok (.iconst 1, 1) := by decide +kernel
theorem dX8_undo_43 : decode cX8_undo 43 = .ok (.iadd, 1) := by decide +kernel
theorem dX8_undo_44 : decode cX8_undo 44 = .ok (.iaload, 1) := by decide +kernel
theorem dX8_undo_45 : decode cX8_undo 45 = .ok (.aload_n 0, 1) := by decide +kernel
theorem dX8_undo_46 : decode cX8_undo 46 = .ok (.getfield 78, 3) := by decide +kernel
theorem dX8_undo_49 : decode cX8_undo 49 = .ok (.iconst 4, 1) := by decide +kernel
theorem dX8_undo_50 : decode cX8_undo 50 = .ok (.aload_n 0, 1) := by decide +kernel
theorem dX8_undo_51 : decode cX8_undo 51 = .ok (.getfield 164, 3) := by decide +kernel
theorem dX8_undo_54 : decode cX8_undo 54 = .ok (.imul, 1) := by decide +kernel
theorem dX8_undo_55 : decode cX8_undo 55 = .ok (.iconst 2, 1) := by decide +kernel
theorem dX8_undo_56 : decode cX8_undo 56 = .ok (.iadd, 1) := by decide +kernel
theorem dX8_undo_57 : decode cX8_undo 57 = .ok (.iaload, 1) := by decide +kernel
theorem dX8_undo_58 : decode cX8_undo 58 = .ok (.invokevirtual 160, 3) := by decide +kernel
theorem dX8_undo_61 : decode cX8_undo 61 = .ok (.aload_n 0, 1) := by decide +kernel
theorem dX8_undo_62 : decode cX8_undo 62 = .ok (.getfield 164, 3) := by decide +kernel
theorem dX8_undo_65 : decode cX8_undo 65 = .ok (.ireturn, 1) := by decide +kernel
theorem dX8_redo_0 : decode cX8_redo 0 = .ok (.aload_n 0, 1) := by decide +kernel
theorem dX8_redo_1 : decode cX8_redo 1 = .ok (.getfield 164, 3) := by decide +kernel
theorem dX8_redo_4 : decode cX8_redo 4 = .ok (.aload_n 0, 1) := by decide +kernel
theorem dX8_redo_5 : decode cX8_redo 5 = .ok (.getfield 167, 3) := by decide +kernel
theorem dX8_redo_8 : decode cX8_redo 8 = .ok (.if_icmp .ne 6, 3) := by decide +kernel
theorem dX8_redo_11 : decode cX8_redo 11 = .ok (.bipush (-5), 2) := by decide +kernel
theorem dX8_redo_13 : decode cX8_redo 13 = .ok (.ireturn, 1) := by decide +kernel
theorem dX8_redo_14 : decode cX8_redo 14 = .ok (.aload_n 0, 1) := by decide +kernel
theorem dX8_redo_15 : decode cX8_redo 15 = .ok (.aload_n 0, 1) := by decide +kernel
theorem dX8_redo_16 : decode cX8_redo 16 = .ok (.getfield 78, 3) := by decide +kernel
theorem dX8_redo_19 : decode cX8_redo 19 = .ok (.iconst 4, 1) := by decide +kernel
theorem dX8_redo_20 : decode cX8_redo 20 = .ok (.aload_n 0, 1) := by decide +kernel
theorem dX8_redo_21 : decode cX8_redo 21 = .ok (.getfield 164, 3) := by decide +kernel
theorem dX8_redo_24 : decode cX8_redo 24 = .ok (.imul, 1) := by decide +kernel
theorem dX8_redo_25 : decode cX8_redo 25 = .ok (.iaload, 1) := by decide +kernel
theorem dX8_redo_26 : decode cX8_redo 26 = .ok (.aload_n 0, 1) := by decide +kernel
theorem dX8_redo_27 : decode cX8_redo 27 = .ok (.getfield 78, 3) := by decide +kernel
theorem dX8_redo_30 : decode cX8_redo 30 = .ok (.iconst 4, 1) := by decide +kernel
theorem dX8_redo_31 : decode cX8_redo 31 = .ok (.aload_n 0, 1) := by decide +kernel
theorem dX8_redo_32 : decode cX8_redo 32 = .ok (.getfield 164, 3) := by decide +kernel
theorem dX8_redo_35 : decode cX8_redo 35 = .ok (.imul, 1) := by decide +kernel
theorem dX8_redo_36 : decode cX8_redo 36 = .ok (.iconst 1, 1) := by decide +kernel
theorem dX8_redo_37 : decode cX8_redo 37 = .ok (.iadd, 1) := by decide +kernel
theorem dX8_redo_38 : decode cX8_redo 38 = .ok (.iaload, 1) := by decide +kernel
theorem dX8_redo_39 : decode cX8_redo 39 = .ok (.aload_n 0, 1) := by decide +kernel
theorem dX8_redo_40 : decode cX8_redo 40 = .ok (.getfield 78, 3) := by decide +kernel
theorem dX8_redo_43 : decode cX8_redo 43 = .ok (.iconst 4, 1) := by decide +kernel
theorem dX8_redo_44 : decode cX8_redo 44 = .ok (.aload_n 0, 1) := by decide +kernel
theorem dX8_redo_45 : decode cX8_redo 45 = .ok (.getfield 164, 3) := by decide +kernel
theorem dX8_redo_48 : decode cX8_redo 48 = .ok (.imul, 1) := by decide +kernel
theorem dX8_redo_49 : decode cX8_redo 49 = .ok (.iconst 3, 1) := by decide +kernel
theorem dX8_redo_50 : decode cX8_redo 50 = .ok (.iadd, 1) := by decide +kernel
theorem dX8_redo_51 : decode cX8_redo 51 = .ok (.iaload, 1) := by decide +kernel
theorem dX8_redo_52 : decode cX8_redo 52 = .ok (.invokevirtual 160, 3) := by decide +kernel
theorem dX8_redo_55 : decode cX8_redo 55 = .ok (.aload_n 0, 1) := by decide +kernel
theorem dX8_redo_56 : decode cX8_redo 56 = .ok (.dup, 1) := by decide +kernel
theorem dX8_redo_57 : decode cX8_redo 57 = .ok (.getfield 164, 3) := by decide +kernel
theorem dX8_redo_60 : decode cX8_redo 60 = .ok (.iconst 1, 1) := by decide +kernel
theorem dX8_redo_61 : decode cX8_redo 61 = .ok (.iadd, 1) := by decide +kernel
theorem dX8_redo_62 : decode cX8_redo 62 = .ok (.putfield 164, 3) := by decide +kernel
theorem dX8_redo_65 : decode cX8_redo 65 = .ok (.aload_n 0, 1) := by decide +kernel
theorem dX8_redo_66 : decode cX8_redo 66 = .ok (.getfield 167, 3) := by decide +kernel
theorem dX8_redo_69 : decode cX8_redo 69 = .ok (.aload_n 0, 1) := by decide +kernel
theorem dX8_redo_70 : decode cX8_redo 70 = .ok (.getfield 164, 3) := by decide +kernel
theorem dX8_redo_73 : decode cX8_redo 73 = .ok (.isub, 1) := by decide +kernel
theorem dX8_redo_74 : decode cX8_redo 74 = .ok (.ireturn, 1) := by decide +kernel
theorem dX8_feed_0 : decode cX8_feed 0 = .ok (.iload_n 1, 1) := by decide +kernel
theorem dX8_feed_1 : decode cX8_feed 1 = .ok (.iconst 0, 1) := by decide +kernel
theorem dX8_feed_2 : decode cX8_feed 2 = .ok (.sipush 255, 3) := by decide +kernel
theorem dX8_feed_5 : decode cX8_feed 5 = .ok (.invokestatic 109, 3) := by decide +kernel
theorem dX8_feed_8 : decode cX8_feed 8 = .ok (.ifCond .ne 5, 3) := by decide +kernel
theorem dX8_feed_11 : decode cX8_feed 11 = .ok (.iconst (-1), 1) := by decide +kernel
theorem dX8_feed_12 : decode cX8_feed 12 = .ok (.ireturn, 1) := by decide +kernel
theorem dX8_feed_13 : decode cX8_feed 13 = .ok (.aload_n 0, 1) := by decide +kernel
theorem dX8_feed_14 : decode cX8_feed 14 = .ok (.getfield 170, 3) := by decide +kernel
theorem dX8_feed_17 : decode cX8_feed 17 = .ok (.bipush 120, 2) := by decide +kernel
theorem dX8_feed_19 : decode cX8_feed 19 = .ok (.if_icmp .ne 6, 3) := by decide +kernel
theorem dX8_feed_22 : decode cX8_feed 22 = .ok (.bipush (-3), 2) := by decide +kernel
theorem dX8_feed_24 : decode cX8_feed 24 = .ok (.ireturn, 1) := by decide +kernel
theorem dX8_feed_25 : decode cX8_feed 25 = .ok (.aload_n 0, 1) := by decide +kernel
theorem dX8_feed_26 : decode cX8_feed 26 = .ok (.getfield 36, 3) := by decide +kernel
theorem dX8_feed_29 : decode cX8_feed 29 = .ok (.aload_n 0, 1) := by decide +kernel
theorem dX8_feed_30 : decode cX8_feed 30 = .ok (.dup, 1) := by decide +kernel
theorem dX8_feed_31 : decode cX8_feed 31 = .ok (.getfield 170, 3) := by decide +kernel
theorem dX8_feed_34 : decode cX8_feed 34 = .ok (.dup_x1, 1) := by decide +kernel
theorem dX8_feed_35 : decode cX8_feed 35 = .ok (.iconst 1, 1) := by decide +kernel
theorem dX8_feed_36 : decode cX8_feed 36 = .ok (.iadd, 1) := by decide +kernel
theorem dX8_feed_37 : decode cX8_feed 37 = .ok (.putfield 170, 3) := by decide +kernel
theorem dX8_feed_40 : decode cX8_feed 40 = .ok (.iload_n 1, 1) := by decide +kernel
theorem dX8_feed_41 : decode cX8_feed 41 = .ok (.iastore, 1) := by decide +kernel
theorem dX8_feed_42 : decode cX8_feed 42 = .ok (.aload_n 0, 1) := by decide +kernel
theorem dX8_feed_43 : decode cX8_feed 43 = .ok (.getfield 170, 3) := by decide +kernel
theorem dX8_feed_46 : decode cX8_feed 46 = .ok (.ireturn, 1) := by decide +kernel
theorem dX8_sign_0 : decode cX8_sign 0 = .ok (.aload_n 0, 1) := by decide +kernel
theorem dX8_sign_1 : decode cX8_sign 1 = .ok (.getfield 173, 3) := by decide +kernel
theorem dX8_sign_4 : decode cX8_sign 4 = .ok (.aload_n 0, 1) := by decide +kernel
theorem dX8_sign_5 : decode cX8_sign 5 = .ok (.getfield 170, 3) := by decide +kernel
theorem dX8_sign_8 : decode cX8_sign 8 = .ok (.if_icmp .ge 15, 3) := by decide +kernel
theorem dX8_sign_11 : decode cX8_sign 11 = .ok (.aload_n 0, 1) := by decide +kernel
theorem dX8_sign_12 : decode cX8_sign 12 = .ok (.getfield 36, 3) := by decide +kernel
theorem dX8_sign_15 : decode cX8_sign 15 = .ok (.aload_n 0, 1) := by decide +kernel
theorem dX8_sign_16 : decode cX8_sign 16 = .ok (.getfield 173, 3) := by decide +kernel
theorem dX8_sign_19 : decode cX8_sign 19 = .ok (.iaload, 1) := by decide +kernel
theorem dX8_sign_20 : decode cX8_sign 20 = .ok (.goto 4, 3) := by decide +kernel
theorem dX8_sign_23 : decode cX8_sign 23 = .ok (.iconst (-1), 1) := by decide +kernel
theorem dX8_sign_24 : decode cX8_sign 24 = .ok (.ireturn, 1) := by decide +kernel
theorem dX8_is_0 : decode cX8_is 0 = .ok (.aload_n 0, 1) := by decide +kernel
theorem dX8_is_1 : decode cX8_is 1 = .ok (.invokevirtual 176, 3) := by decide +kernel
theorem dX8_is_4 : decode cX8_is 4 = .ok (.iload_n 1, 1) := by decide +kernel
theorem dX8_is_5 : decode cX8_is 5 = .ok (.if_icmp .eq 5, 3) := by decide +kernel
theorem dX8_is_8 : decode cX8_is 8 = .ok (.iconst 0, 1) := by decide +kernel
theorem dX8_is_9 : decode cX8_is 9 = .ok (.ireturn, 1) := by decide +kernel
theorem dX8_is_10 : decode cX8_is 10 = .ok (.aload_n 0, 1) := by decide +kernel
theorem dX8_is_11 : decode cX8_is 11 = .ok (.dup, 1) := by decide +kernel
theorem dX8_is_12 : decode cX8_is 12 = .ok (.getfield 173, 3) := by decide +kernel
theorem dX8_is_15 : decode cX8_is 15 = .ok (.iconst 1, 1) := by decide +kernel
theorem dX8_is_16 : decode cX8_is 16 = .ok (.iadd, 1) := by decide +kernel
theorem dX8_is_17 : decode cX8_is 17 = .ok (.putfield 173, 3) := by decide +kernel
theorem dX8_is_20 : decode cX8_is 20 = .ok (.iconst 1, 1) := by decide +kernel
theorem dX8_is_21 : decode cX8_is 21 = .ok (.ireturn, 1) := by decide +kernel
theorem dX8_codes_0 : decode cX8_codes 0 = .ok (.aload_n 0, 1) := by decide +kernel
theorem dX8_codes_1 : decode cX8_codes 1 = .ok (.getfield 60, 3) := by decide +kernel
theorem dX8_codes_4 : decode cX8_codes 4 = .ok (.aload_n 0, 1) := by decide +kernel
theorem dX8_codes_5 : decode cX8_codes 5 = .ok (.dup, 1) := by decide +kernel
theorem dX8_codes_6 : decode cX8_codes 6 = .ok (.getfield 180, 3) := by decide +kernel
theorem dX8_codes_9 : decode cX8_codes 9 = .ok (.dup_x1, 1) := by decide +kernel
theorem dX8_codes_10 : decode cX8_codes 10 = .ok (.iconst 1, 1) := by decide +kernel
theorem dX8_codes_11 : decode cX8_codes 11 = .ok (.iadd, 1) := by decide +kernel
theorem dX8_codes_12 : decode cX8_codes 12 = .ok (.putfield 180, 3) := by decide +kernel
theorem dX8_codes_15 : decode cX8_codes 15 = .ok (.iload_n 1, 1) := by decide +kernel
theorem dX8_codes_16 : decode cX8_codes 16 = .ok (.iastore, 1) := by decide +kernel
theorem dX8_codes_17 : decode cX8_codes 17 = .ok (.iconst 1, 1) := by decide +kernel
theorem dX8_codes_18 : decode cX8_codes 18 = .ok (.ireturn, 1) := by decide +kernel
theorem dX8_isDigit_0 : decode cX8_isDigit 0 = .ok (.aload_n 0, 1) := by decide +kernel
theorem dX8_isDigit_1 : decode cX8_isDigit 1 = .ok (.invokevirtual 176, 3) := by decide +kernel
theorem dX8_isDigit_4 : decode cX8_isDigit 4 = .ok (.bipush 48, 2) := by decide +kernel
theorem dX8_isDigit_6 : decode cX8_isDigit 6 = .ok (.if_icmp .lt 16, 3) := by decide +kernel
theorem dX8_isDigit_9 : decode cX8_isDigit 9 = .ok (.aload_n 0, 1) := by decide +kernel
theorem dX8_isDigit_10 : decode cX8_isDigit 10 = .ok (.invokevirtual 176, 3) := by decide +kernel
theorem dX8_isDigit_13 : decode cX8_isDigit 13 = .ok (.bipush 57, 2) := by decide +kernel
theorem dX8_isDigit_15 : decode cX8_isDigit 15 = .ok (.if_icmp .gt 7, 3) := by decide +kernel
theorem dX8_isDigit_18 : decode cX8_isDigit 18 = .ok (.iconst 1, 1) := by decide +kernel
theorem dX8_isDigit_19 : decode cX8_isDigit 19 = .ok (.goto 4, 3) := by decide +kernel
theorem dX8_isDigit_22 : decode cX8_isDigit 22 = .ok (.iconst 0, 1) := by decide +kernel
theorem dX8_isDigit_23 : decode cX8_isDigit 23 = .ok (.ireturn, 1) := by decide +kernel
theorem dX8_nameOf_0 : decode cX8_nameOf 0 = .ok (.iload_n 0, 1) := by decide +kernel
theorem dX8_nameOf_1 : decode cX8_nameOf 1 = .ok (.lookupswitch 71 #[(97, 61), (104, 63), (110, 67), (111, 69), (115, 65), (119, 59)], 59) := by decide +kernel
theorem dX8_nameOf_60 : decode cX8_nameOf 60 = .ok (.iconst 0, 1) := by decide +kernel
theorem dX8_nameOf_61 : decode cX8_nameOf 61 = .ok (.ireturn, 1) := by decide +kernel
theorem dX8_nameOf_62 : decode cX8_nameOf 62 = .ok (.iconst 1, 1) := by decide +kernel
theorem dX8_nameOf_63 : decode cX8_nameOf 63 = .ok (.ireturn, 1) := by decide +kernel
theorem dX8_nameOf_64 : decode cX8_nameOf 64 = .ok (.iconst 2, 1) := by decide +kernel
theorem dX8_nameOf_65 : decode cX8_nameOf 65 = .ok (.ireturn, 1) := by decide +kernel
theorem dX8_nameOf_66 : decode cX8_nameOf 66 = .ok (.iconst 3, 1) := by decide +kernel
theorem dX8_nameOf_67 : decode cX8_nameOf 67 = .ok (.ireturn, 1) := by decide +kernel
theorem dX8_nameOf_68 : decode cX8_nameOf 68 = .ok (.iconst 4, 1) := by decide +kernel
theorem dX8_nameOf_69 : decode cX8_nameOf 69 = .ok (.ireturn, 1) := by decide +kernel
theorem dX8_nameOf_70 : decode cX8_nameOf 70 = .ok (.iconst 5, 1) := by decide +kernel
theorem dX8_nameOf_71 : decode cX8_nameOf 71 = .ok (.ireturn, 1) := by decide +kernel
theorem dX8_nameOf_72 : decode cX8_nameOf 72 = .ok (.iconst (-1), 1) := by decide +kernel
theorem dX8_nameOf_73 : decode cX8_nameOf 73 = .ok (.ireturn, 1) := by decide +kernel
theorem dX8_isO_0 : decode cX8_isO 0 = .ok (.aload_n 0, 1) := by decide +kernel
theorem dX8_isO_1 : decode cX8_isO 1 = .ok (.invokevirtual 183, 3) := by decide +kernel
theorem dX8_isO_4 : decode cX8_isO 4 = .ok (.ifCond .eq 62, 3) := by decide +kernel
theorem dX8_isO_7 : decode cX8_isO 7 = .ok (.iconst 0, 1) := by decide +kernel
theorem dX8_isO_8 : decode cX8_isO 8 = .ok (.istore_n 1, 1) := by decide +kernel
theorem dX8_isO_9 : decode cX8_isO 9 = .ok (.iconst 0, 1) := by decide +kernel
theorem dX8_isO_10 : decode cX8_isO 10 = .ok (.istore_n 2, 1) := by decide +kernel
theorem dX8_isO_11 : decode cX8_isO 11 = .ok (.iload_n 2, 1) := by decide +kernel
theorem dX8_isO_12 : decode cX8_isO 12 = .ok (.iconst 4, 1) := by decide +kernel
theorem dX8_isO_13 : decode cX8_isO 13 = .ok (.if_icmp .ge 44, 3) := by decide +kernel
theorem dX8_isO_16 : decode cX8_isO 16 = .ok (.aload_n 0, 1) := by decide +kernel
theorem dX8_isO_17 : decode cX8_isO 17 = .ok (.invokevirtual 183, 3) := by decide +kernel
theorem dX8_isO_20 : decode cX8_isO 20 = .ok (.ifCond .eq 37, 3) := by decide +kernel
theorem dX8_isO_23 : decode cX8_isO 23 = .ok (.bipush 10, 2) := by decide +kernel
theorem dX8_isO_25 : decode cX8_isO 25 = .ok (.iload_n 1, 1) := by decide +kernel
theorem dX8_isO_26 : decode cX8_isO 26 = .ok (.imul, 1) := by decide +kernel
theorem dX8_isO_27 : decode cX8_isO 27 = .ok (.aload_n 0, 1) := by decide +kernel
theorem dX8_isO_28 : decode cX8_isO 28 = .ok (.getfield 36, 3) := by decide +kernel
theorem dX8_isO_31 : decode cX8_isO 31 = .ok (.aload_n 0, 1) := by decide +kernel
theorem dX8_isO_32 : decode cX8_isO 32 = .ok (.getfield 173, 3) := by decide +kernel
theorem dX8_isO_35 : decode cX8_isO 35 = .ok (.iaload, 1) := by decide +kernel
theorem dX8_isO_36 : decode cX8_isO 36 = .ok (.iadd, 1) := by decide +kernel
theorem dX8_isO_37 : decode cX8_isO 37 = .ok (.bipush 48, 2) := by decide +kernel
theorem dX8_isO_39 : decode cX8_isO 39 = .ok (.isub, 1) := by decide +kernel
theorem dX8_isO_40 : decode cX8_isO 40 = .ok (.istore_n 1, 1) := by decide +kernel
theorem dX8_isO_41 : decode cX8_isO 41 = .ok (.aload_n 0, 1) := by decide +kernel
theorem dX8_isO_42 : decode cX8_isO 42 = .ok (.dup, 1) := by decide +kernel
theorem dX8_isO_43 : decode cX8_isO 43 = .ok (.getfield 173, 3) := by decide +kernel
theorem dX8_isO_46 : decode cX8_isO 46 = .ok (.iconst 1, 1) := by decide +kernel
theorem dX8_isO_47 : decode cX8_isO 47 = .ok (.iadd, 1) := by decide +kernel
theorem dX8_isO_48 : decode cX8_isO 48 = .ok (.putfield 173, 3) := by decide +kernel
theorem dX8_isO_51 : decode cX8_isO 51 = .ok (.iinc 2 1, 3) := by decide +kernel
theorem dX8_isO_54 : decode cX8_isO 54 = .ok (.goto (-43), 3) := by decide +kernel
theorem dX8_isO_57 : decode cX8_isO 57 = .ok (.aload_n 0, 1) := by decide +kernel
theorem dX8_isO_58 : decode cX8_isO 58 = .ok (.bipush 18, 2) := by decide +kernel
theorem dX8_isO_60 : decode cX8_isO 60 = .ok (.iload_n 1, 1) := by decide +kernel
theorem dX8_isO_61 : decode cX8_isO 61 = .ok (.iadd, 1) := by decide +kernel
theorem dX8_isO_62 : decode cX8_isO 62 = .ok (.invokevirtual 187, 3) := by decide +kernel
theorem dX8_isO_65 : decode cX8_isO 65 = .ok (.ireturn, 1) := by decide +kernel
theorem dX8_isO_66 : decode cX8_isO 66 = .ok (.aload_n 0, 1) := by decide +kernel
theorem dX8_isO_67 : decode cX8_isO 67 = .ok (.invokevirtual 176, 3) := by decide +kernel
theorem dX8_isO_70 : decode cX8_isO 70 = .ok (.invokestatic 190, 3) := by decide +kernel
theorem dX8_isO_73 : decode cX8_isO 73 = .ok (.istore_n 1, 1) := by decide +kernel
theorem dX8_isO_74 : decode cX8_isO 74 = .ok (.iload_n 1, 1) := by decide +kernel
theorem dX8_isO_75 : decode cX8_isO 75 = .ok (.ifCond .lt 19, 3) := by decide +kernel
theorem dX8_isO_78 : decode cX8_isO 78 = .ok (.aload_n 0, 1) := by decide +kernel
theorem dX8_isO_79 : decode cX8_isO 79 = .ok (.dup, 1) := by decide +kernel
theorem dX8_isO_80 : decode cX8_isO 80 = .ok (.getfield 173, 3) := by decide +kernel
theorem dX8_isO_83 : decode cX8_isO 83 = .ok (.iconst 1, 1) := by decide +kernel
theorem dX8_isO_84 : decode cX8_isO 84 = .ok (.iadd, 1) := by decide +kernel
theorem dX8_isO_85 : decode cX8_isO 85 = .ok (.putfield 173, 3) := by decide +kernel
theorem dX8_isO_88 : decode cX8_isO 88 = .ok (.aload_n 0, 1) := by decide +kernel
theorem dX8_isO_89 : decode cX8_isO 89 = .ok (.iload_n 1, 1) := by decide +kernel
theorem dX8_isO_90 : decode cX8_isO 90 = .ok (.invokevirtual 187, 3) := by decide +kernel
theorem dX8_isO_93 : decode cX8_isO 93 = .ok (.ireturn, 1) := by decide +kernel
theorem dX8_isO_94 : decode cX8_isO 94 = .ok (.aload_n 0, 1) := by decide +kernel
theorem dX8_isO_95 : decode cX8_isO 95 = .ok (.getfield 194, 3) := by decide +kernel
theorem dX8_isO_98 : decode cX8_isO 98 = .ok (.bipush 6, 2) := by decide +kernel
theorem dX8_isO_100 : decode cX8_isO 100 = .ok (.if_icmp .ne 5, 3) := by decide +kernel
theorem dX8_isO_103 : decode cX8_isO 103 = .ok (.iconst 0, 1) := by decide +kernel
theorem dX8_isO_104 : decode cX8_isO 104 = .ok (.ireturn, 1) := by decide +kernel
theorem dX8_isO_105 : decode cX8_isO 105 = .ok (.aload_n 0, 1) := by decide +kernel
theorem dX8_isO_106 : decode cX8_isO 106 = .ok (.dup, 1) := by decide +kernel
theorem dX8_isO_107 : decode cX8_isO 107 = .ok (.getfield 194, 3) := by decide +kernel
theorem dX8_isO_110 : decode cX8_isO 110 = .ok (.iconst 1, 1) := by decide +kernel
theorem dX8_isO_111 : decode cX8_isO 111 = .ok (.iadd, 1) := by decide +kernel
theorem dX8_isO_112 : decode cX8_isO 112 = .ok (.putfield 194, 3) := by decide +kernel
theorem dX8_isO_115 : decode cX8_isO 115 = .ok (.aload_n 0, 1) := by decide +kernel
theorem dX8_isO_116 : decode cX8_isO 116 = .ok (.bipush 33, 2) := by decide +kernel
theorem dX8_isO_118 : decode cX8_isO 118 = .ok (.invokevirtual 197, 3) := by decide +kernel
theorem dX8_isO_121 : decode cX8_isO 121 = .ok (.ifCond .eq 28, 3) := by decide +kernel
theorem dX8_isO_124 : decode cX8_isO 124 = .ok (.aload_n 0, 1) := by decide +kernel
theorem dX8_isO_125 : decode cX8_isO 125 = .ok (.invokevirtual 200, 3) := by decide +kernel
theorem dX8_isO_128 : decode cX8_isO 128 = .ok (.ifCond .eq 16, 3) := by decide +kernel
theorem dX8_isO_131 : decode cX8_isO 131 = .ok (.aload_n 0, 1) := by decide +kernel
theorem dX8_isO_132 : decode cX8_isO 132 = .ok (.bipush 16, 2) := by decide +kernel
theorem dX8_isO_134 : decode cX8_isO 134 = .ok (.invokevirtual 187, 3) := by decide +kernel
theorem dX8_isO_137 : decode cX8_isO 137 = .ok (.ifCond .eq 7, 3) := by decide +kernel
theorem dX8_isO_140 : decode cX8_isO 140 = .ok (.iconst 1, 1) := by decide +kernel
theorem dX8_isO_141 : decode cX8_isO 141 = .ok (.goto 4, 3) := by decide +kernel
theorem dX8_isO_144 : decode cX8_isO 144 = .ok (.iconst 0, 1) := by decide +kernel
theorem dX8_isO_145 : decode cX8_isO 145 = .ok (.istore_n 2, 1) := by decide +kernel
theorem dX8_isO_146 : decode cX8_isO 146 = .ok (.goto 68, 3) := by decide +kernel
theorem dX8_isO_149 : decode cX8_isO 149 = .ok (.aload_n 0, 1) := by decide +kernel
theorem dX8_isO_150 : decode cX8_isO 150 = .ok (.bipush 45, 2) := by decide +kernel
theorem dX8_isO_152 : decode cX8_isO 152 = .ok (.invokevirtual 197, 3) := by decide +kernel
theorem dX8_isO_155 : decode cX8_isO 155 = .ok (.ifCond .eq 28, 3) := by decide +kernel
theorem dX8_isO_158 : decode cX8_isO 158 = .ok (.aload_n 0, 1) := by decide +kernel
theorem dX8_isO_159 : decode cX8_isO 159 = .ok (.invokevirtual 200, 3) := by decide +kernel
theorem dX8_isO_162 : decode cX8_isO 162 = .ok (.ifCond .eq 16, 3) := by decide +kernel
theorem dX8_isO_165 : decode cX8_isO 165 = .ok (.aload_n 0, 1) := by decide +kernel
theorem dX8_isO_166 : decode cX8_isO 166 = .ok (.bipush 17, 2) := by decide +kernel
theorem dX8_isO_168 : decode cX8_isO 168 = .ok (.invokevirtual 187, 3) := by decide +kernel
theorem dX8_isO_171 : decode cX8_isO 171 = .ok (.ifCond .eq 7, 3) := by decide +kernel
theorem dX8_isO_174 : decode cX8_isO 174 = .ok (.iconst 1, 1) := by decide +kernel
theorem dX8_isO_175 : decode cX8_isO 175 = .ok (.goto 4, 3) := by decide +kernel
theorem dX8_isO_178 : decode cX8_isO 178 = .ok (.iconst 0, 1) := by decide +kernel
theorem dX8_isO_179 : decode cX8_isO 179 = .ok (.istore_n 2, 1) := by decide +kernel
theorem dX8_isO_180 : decode cX8_isO 180 = .ok (.goto 34, 3) := by decide +kernel
theorem dX8_isO_183 : decode cX8_isO 183 = .ok (.aload_n 0, 1) := by decide +kernel
theorem dX8_isO_184 : decode cX8_isO 184 = .ok (.bipush 40, 2) := by decide +kernel
theorem dX8_isO_186 : decode cX8_isO 186 = .ok (.invokevirtual 197, 3) := by decide +kernel
theorem dX8_isO_189 : decode cX8_isO 189 = .ok (.ifCond .eq 23, 3) := by decide +kernel
theorem dX8_isO_192 : decode cX8_isO 192 = .ok (.aload_n 0, 1) := by decide +kernel
theorem dX8_isO_193 : decode cX8_isO 193 = .ok (.invokevirtual 203, 3) := by decide +kernel
theorem dX8_isO_196 : decode cX8_isO 196 = .ok (.ifCond .eq 16, 3) := by decide +kernel
theorem dX8_isO_199 : decode cX8_isO 199 = .ok (.aload_n 0, 1) := by decide +kernel
theorem dX8_isO_200 : decode cX8_isO 200 = .ok (.bipush 41, 2) := by decide +kernel
theorem dX8_isO_202 : decode cX8_isO 202 = .ok (.invokevirtual 197, 3) := by decide +kernel
theorem dX8_isO_205 : decode cX8_isO 205 = .ok (.ifCond .eq 7, 3) := by decide +kernel
theorem dX8_isO_208 : decode cX8_isO 208 = .ok (.iconst 1, 1) := by decide +kernel
theorem dX8_isO_209 : decode cX8_isO 209 = .ok (.goto 4, 3) := by decide +kernel
theorem dX8_isO_212 : decode cX8_isO 212 = .ok (.iconst 0, 1) := by decide +kernel
theorem dX8_isO_213 : decode cX8_isO 213 = .ok (.istore_n 2, 1) := by decide +kernel
theorem dX8_isO_214 : decode cX8_isO 214 = .ok (.aload_n 0, 1) := by decide +kernel
theorem dX8_isO_215 : decode cX8_isO 215 = .ok (.dup, 1) := by decide +kernel
theorem dX8_isO_216 : decode cX8_isO 216 = .ok (.getfield 194, 3) := by decide +kernel
theorem dX8_isO_219 : decode cX8_isO 219 = .ok (.iconst 1, 1) := by decide +kernel
theorem dX8_isO_220 : decode cX8_isO 220 = .ok (.isub, 1) := by decide +kernel
theorem dX8_isO_221 : decode cX8_isO 221 = .ok (.putfield 194, 3) := by decide +kernel
theorem dX8_isO_224 : decode cX8_isO 224 = .ok (.iload_n 2, 1) := by decide +kernel
theorem dX8_isO_225 : decode cX8_isO 225 = .ok (.ireturn, 1) := by decide +kernel
theorem dX8_isP_0 : decode cX8_isP 0 = .ok (.aload_n 0, 1) := by decide +kernel
theorem dX8_isP_1 : decode cX8_isP 1 = .ok (.invokevirtual 200, 3) := by decide +kernel
theorem dX8_isP_4 : decode cX8_isP 4 = .ok (.ifCond .ne 5, 3) := by decide +kernel
theorem dX8_isP_7 : decode cX8_isP 7 = .ok (.iconst 0, 1) := by decide +kernel
theorem dX8_isP_8 : decode cX8_isP 8 = .ok (.ireturn, 1) := by decide +kernel
theorem dX8_isP_9 : decode cX8_isP 9 = .ok (.aload_n 0, 1) := by decide +kernel
theorem dX8_isP_10 : decode cX8_isP 10 = .ok (.invokevirtual 176, 3) := by decide +kernel
theorem dX8_isP_13 : decode cX8_isP 13 = .ok (.bipush 42, 2) := by decide +kernel
theorem dX8_isP_15 : decode cX8_isP 15 = .ok (.if_icmp .ne 8, 3) := by decide +kernel
theorem dX8_isP_18 : decode cX8_isP 18 = .ok (.bipush 13, 2) := by decide +kernel
theorem dX8_isP_20 : decode cX8_isP 20 = .ok (.goto 32, 3) := by decide +kernel
theorem dX8_isP_23 : decode cX8_isP 23 = .ok (.aload_n 0, 1) := by decide +kernel
theorem dX8_isP_24 : decode cX8_isP 24 = .ok (.invokevirtual 176, 3) := by decide +kernel
theorem dX8_isP_27 : decode cX8_isP 27 = .ok (.bipush 47, 2) := by decide +kernel
theorem dX8_isP_29 : decode cX8_isP 29 = .ok (.if_icmp .ne 8, 3) := by decide +kernel
theorem dX8_isP_32 : decode cX8_isP 32 = .ok (.bipush 14, 2) := by decide +kernel
theorem dX8_isP_34 : decode cX8_isP 34 = .ok (.goto 18, 3) := by decide +kernel
theorem dX8_isP_37 : decode cX8_isP 37 = .ok (.aload_n 0, 1) := by decide +kernel
theorem dX8_isP_38 : decode cX8_isP 38 = .ok (.invokevirtual 176, 3) := by decide +kernel
theorem dX8_isP_41 : decode cX8_isP 41 = .ok (.bipush 37, 2) := by decide +kernel
theorem dX8_isP_43 : decode cX8_isP 43 = .ok (.if_icmp .ne 8, 3) := by decide +kernel
theorem dX8_isP_46 : decode cX8_isP 46 = .ok (.bipush 15, 2) := by decide +kernel
theorem dX8_isP_48 : decode cX8_isP 48 = .ok (.goto 4, 3) := by decide +kernel
theorem dX8_isP_51 : decode cX8_isP 51 = .ok (.iconst (-1), 1) := by decide +kernel
theorem dX8_isP_52 : decode cX8_isP 52 = .ok (.istore_n 1, 1) := by decide +kernel
theorem dX8_isP_53 : decode cX8_isP 53 = .ok (.iload_n 1, 1) := by decide +kernel
theorem dX8_isP_54 : decode cX8_isP 54 = .ok (.ifCond .ge 5, 3) := by decide +kernel
theorem dX8_isP_57 : decode cX8_isP 57 = .ok (.iconst 1, 1) := by decide +kernel
theorem dX8_isP_58 : decode cX8_isP 58 = .ok (.ireturn, 1) := by decide +kernel
theorem dX8_isP_59 : decode cX8_isP 59 = .ok (.aload_n 0, 1) := by decide +kernel
theorem dX8_isP_60 : decode cX8_isP 60 = .ok (.dup, 1) := by decide +kernel
theorem dX8_isP_61 : decode cX8_isP 61 = .ok (.getfield 173, 3) := by decide +kernel
theorem dX8_isP_64 : decode cX8_isP 64 = .ok (.iconst 1, 1) := by decide +kernel
theorem dX8_isP_65 : decode cX8_isP 65 = .ok (.iadd, 1) := by decide +kernel
theorem dX8_isP_66 : decode cX8_isP 66 = .ok (.putfield 173, 3) := by decide +kernel
theorem dX8_isP_69 : decode cX8_isP 69 = .ok (.aload_n 0, 1) := by decide +kernel
theorem dX8_isP_70 : decode cX8_isP 70 = .ok (.invokevirtual 200, 3) := by decide +kernel
theorem dX8_isP_73 : decode cX8_isP 73 = .ok (.ifCond .ne 5, 3) := by decide +kernel
theorem dX8_isP_76 : decode cX8_isP 76 = .ok (.iconst 0, 1) := by decide +kernel
theorem dX8_isP_77 : decode cX8_isP 77 = .ok (.ireturn, 1) := by decide +kernel
theorem dX8_isP_78 : decode cX8_isP 78 = .ok (.aload_n 0, 1) := by decide +kernel
theorem dX8_isP_79 : decode cX8_isP 79 = .ok (.iload_n 1, 1) := by decide +kernel
theorem dX8_isP_80 : decode cX8_isP 80 = .ok (.invokevirtual 187, 3) := by decide +kernel
theorem dX8_isP_83 : decode cX8_isP 83 = .ok (.pop, 1) := by decide +kernel
theorem dX8_isP_84 : decode cX8_isP 84 = .ok (.goto (-75), 3) := by decide +kernel
theorem dX8_isS_0 : decode cX8_isS 0 = .ok (.aload_n 0, 1) := by decide +kernel
theorem dX8_isS_1 : decode cX8_isS 1 = .ok (.invokevirtual 206, 3) := by decide +kernel
theorem dX8_isS_4 : decode cX8_isS 4 = .ok (.ifCond .ne 5, 3) := by decide +kernel
theorem dX8_isS_7 : decode cX8_isS 7 = .ok (.iconst 0, 1) := by decide +kernel
theorem dX8_isS_8 : decode cX8_isS 8 = .ok (.ireturn, 1) := by decide +kernel
theorem dX8_isS_9 : decode cX8_isS 9 = .ok (.aload_n 0, 1) := by decide +kernel
theorem dX8_isS_10 : decode cX8_isS 10 = .ok (.invokevirtual 176, 3) := by decide +kernel
theorem dX8_isS_13 : decode cX8_isS 13 = .ok (.bipush 43, 2) := by decide +kernel
theorem dX8_isS_15 : decode cX8_isS 15 = .ok (.if_icmp .ne 8, 3) := by decide +kernel
theorem dX8_isS_18 : decode cX8_isS 18 = .ok (.bipush 11, 2) := by decide +kernel
theorem dX8_isS_20 : decode cX8_isS 20 = .ok (.goto 18, 3) := by decide +kernel
theorem dX8_isS_23 : decode cX8_isS 23 = .ok (.aload_n 0, 1) := by decide +kernel
theorem dX8_isS_24 : decode cX8_isS 24 = .ok (.invokevirtual 176, 3) := by decide +kernel
theorem dX8_isS_27 : decode cX8_isS 27 = .ok (.bipush 45, 2) := by decide +kernel
theorem dX8_isS_29 : decode cX8_isS 29 = .ok (.if_icmp .ne 8, 3) := by decide +kernel
theorem dX8_isS_32 : decode cX8_isS 32 = .ok (.bipush 12, 2) := by decide +kernel
theorem dX8_isS_34 : decode cX8_isS 34 = .ok (.goto 4, 3) := by decide +kernel
theorem dX8_isS_37 : decode cX8_isS 37 = .ok (.iconst (-1), 1) := by decide +kernel
theorem dX8_isS_38 : decode cX8_isS 38 = .ok (.istore_n 1, 1) := by decide +kernel
theorem dX8_isS_39 : decode cX8_isS 39 = .ok (.iload_n 1, 1) := by decide +kernel
theorem dX8_isS_40 : decode cX8_isS 40 = .ok (.ifCond .ge 5, 3) := by decide +kernel
theorem dX8_isS_43 : decode cX8_isS 43 = .ok (.iconst 1, 1) := by decide +kernel
theorem dX8_isS_44 : decode cX8_isS 44 = .ok (.ireturn, 1) := by decide +kernel
theorem dX8_isS_45 : decode cX8_isS 45 = .ok (.aload_n 0, 1) := by decide +kernel
theorem dX8_isS_46 : decode cX8_isS 46 = .ok (.dup, 1) := by decide +kernel
theorem dX8_isS_47 : decode cX8_isS 47 = .ok (.getfield 173, 3) := by decide +kernel
theorem dX8_isS_50 : decode cX8_isS 50 = .ok (.iconst 1, 1) := by decide +kernel
theorem dX8_isS_51 : decode cX8_isS 51 = .ok (.iadd, 1) := by decide +kernel
theorem dX8_isS_52 : decode cX8_isS 52 = .ok (.putfield 173, 3) := by decide +kernel
theorem dX8_isS_55 : decode cX8_isS 55 = .ok (.aload_n 0, 1) := by decide +kernel
theorem dX8_isS_56 : decode cX8_isS 56 = .ok (.invokevirtual 206, 3) := by decide +kernel
theorem dX8_isS_59 : decode cX8_isS 59 = .ok (.ifCond .ne 5, 3) := by decide +kernel
theorem dX8_isS_62 : decode cX8_isS 62 = .ok (.iconst 0, 1) := by decide +kernel
theorem dX8_isS_63 : decode cX8_isS 63 = .ok (.ireturn, 1) := by decide +kernel
theorem dX8_isS_64 : decode cX8_isS 64 = .ok (.aload_n 0, 1) := by decide +kernel
theorem dX8_isS_65 : decode cX8_isS 65 = .ok (.iload_n 1, 1) := by decide +kernel
theorem dX8_isS_66 : decode cX8_isS 66 = .ok (.invokevirtual 187, 3) := by decide +kernel
theorem dX8_isS_69 : decode cX8_isS 69 = .ok (.pop, 1) := by decide +kernel
theorem dX8_isS_70 : decode cX8_isS 70 = .ok (.goto (-61), 3) := by decide +kernel
theorem dX8_isB_0 : decode cX8_isB 0 = .ok (.aload_n 0, 1) := by decide +kernel
theorem dX8_isB_1 : decode cX8_isB 1 = .ok (.invokevirtual 209, 3) := by decide +kernel
theorem dX8_isB_4 : decode cX8_isB 4 = .ok (.ifCond .ne 5, 3) := by decide +kernel
theorem dX8_isB_7 : decode cX8_isB 7 = .ok (.iconst 0, 1) := by decide +kernel
theorem dX8_isB_8 : decode cX8_isB 8 = .ok (.ireturn, 1) := by decide +kernel
theorem dX8_isB_9 : decode cX8_isB 9 = .ok (.aload_n 0, 1) := by decide +kernel
theorem dX8_isB_10 : decode cX8_isB 10 = .ok (.invokevirtual 176, 3) := by decide +kernel
theorem dX8_isB_13 : decode cX8_isB 13 = .ok (.bipush 60, 2) := by decide +kernel
theorem dX8_isB_15 : decode cX8_isB 15 = .ok (.if_icmp .ne 8, 3) := by decide +kernel
theorem dX8_isB_18 : decode cX8_isB 18 = .ok (.bipush 8, 2) := by decide +kernel
theorem dX8_isB_20 : decode cX8_isB 20 = .ok (.goto 32, 3) := by decide +kernel
theorem dX8_isB_23 : decode cX8_isB 23 = .ok (.aload_n 0, 1) := by decide +kernel
theorem dX8_isB_24 : decode cX8_isB 24 = .ok (.invokevirtual 176, 3) := by decide +kernel
theorem dX8_isB_27 : decode cX8_isB 27 = .ok (.bipush 61, 2) := by decide +kernel
theorem dX8_isB_29 : decode cX8_isB 29 = .ok (.if_icmp .ne 8, 3) := by decide +kernel
theorem dX8_isB_32 : decode cX8_isB 32 = .ok (.bipush 9, 2) := by decide +kernel
theorem dX8_isB_34 : decode cX8_isB 34 = .ok (.goto 18, 3) := by decide +kernel
theorem dX8_isB_37 : decode cX8_isB 37 = .ok (.aload_n 0, 1) := by decide +kernel
theorem dX8_isB_38 : decode cX8_isB 38 = .ok (.invokevirtual 176, 3) := by decide +kernel
theorem dX8_isB_41 : decode cX8_isB 41 = .ok (.bipush 62, 2) := by decide +kernel
theorem dX8_isB_43 : decode cX8_isB 43 = .ok (.if_icmp .ne 8, 3) := by decide +kernel
theorem dX8_isB_46 : decode cX8_isB 46 = .ok (.bipush 10, 2) := by decide +kernel
theorem dX8_isB_48 : decode cX8_isB 48 = .ok (.goto 4, 3) := by decide +kernel
theorem dX8_isB_51 : decode cX8_isB 51 = .ok (.iconst (-1), 1) := by decide +kernel
theorem dX8_isB_52 : decode cX8_isB 52 = .ok (.istore_n 1, 1) := by decide +kernel
theorem dX8_isB_53 : decode cX8_isB 53 = .ok (.iload_n 1, 1) := by decide +kernel
theorem dX8_isB_54 : decode cX8_isB 54 = .ok (.ifCond .ge 5, 3) := by decide +kernel
theorem dX8_isB_57 : decode cX8_isB 57 = .ok (.iconst 1, 1) := by decide +kernel
theorem dX8_isB_58 : decode cX8_isB 58 = .ok (.ireturn, 1) := by decide +kernel
theorem dX8_isB_59 : decode cX8_isB 59 = .ok (.aload_n 0, 1) := by decide +kernel
theorem dX8_isB_60 : decode cX8_isB 60 = .ok (.dup, 1) := by decide +kernel
theorem dX8_isB_61 : decode cX8_isB 61 = .ok (.getfield 173, 3) := by decide +kernel
theorem dX8_isB_64 : decode cX8_isB 64 = .ok (.iconst 1, 1) := by decide +kernel
theorem dX8_isB_65 : decode cX8_isB 65 = .ok (.iadd, 1) := by decide +kernel
theorem dX8_isB_66 : decode cX8_isB 66 = .ok (.putfield 173, 3) := by decide +kernel
theorem dX8_isB_69 : decode cX8_isB 69 = .ok (.aload_n 0, 1) := by decide +kernel
theorem dX8_isB_70 : decode cX8_isB 70 = .ok (.invokevirtual 209, 3) := by decide +kernel
theorem dX8_isB_73 : decode cX8_isB 73 = .ok (.ifCond .eq 15, 3) := by decide +kernel
theorem dX8_isB_76 : decode cX8_isB 76 = .ok (.aload_n 0, 1) := by decide +kernel
theorem dX8_isB_77 : decode cX8_isB 77 = .ok (.iload_n 1, 1) := by decide +kernel
theorem dX8_isB_78 : decode cX8_isB 78 = .ok (.invokevirtual 187, 3) := by decide +kernel
theorem dX8_isB_81 : decode cX8_isB 81 = .ok (.ifCond .eq 7, 3) := by decide +kernel
theorem dX8_isB_84 : decode cX8_isB 84 = .ok (.iconst 1, 1) := by decide +kernel
theorem dX8_isB_85 : decode cX8_isB 85 = .ok (.goto 4, 3) := by decide +kernel
theorem dX8_isB_88 : decode cX8_isB 88 = .ok (.iconst 0, 1) := by decide +kernel
theorem dX8_isB_89 : decode cX8_isB 89 = .ok (.ireturn, 1) := by decide +kernel
theorem dX8_isA_0 : decode cX8_isA 0 = .ok (.aload_n 0, 1) := by decide +kernel
theorem dX8_isA_1 : decode cX8_isA 1 = .ok (.invokevirtual 212, 3) := by decide +kernel
theorem dX8_isA_4 : decode cX8_isA 4 = .ok (.ifCond .ne 5, 3) := by decide +kernel
theorem dX8_isA_7 : decode cX8_isA 7 = .ok (.iconst 0, 1) := by decide +kernel
theorem dX8_isA_8 : decode cX8_isA 8 = .ok (.ireturn, 1) := by decide +kernel
theorem dX8_isA_9 : decode cX8_isA 9 = .ok (.aload_n 0, 1) := by decide +kernel
theorem dX8_isA_10 : decode cX8_isA 10 = .ok (.bipush 38, 2) := by decide +kernel
theorem dX8_isA_12 : decode cX8_isA 12 = .ok (.invokevirtual 197, 3) := by decide +kernel
theorem dX8_isA_15 : decode cX8_isA 15 = .ok (.ifCond .eq 22, 3) := by decide +kernel
theorem dX8_isA_18 : decode cX8_isA 18 = .ok (.aload_n 0, 1) := by decide +kernel
theorem dX8_isA_19 : decode cX8_isA 19 = .ok (.invokevirtual 212, 3) := by decide +kernel
theorem dX8_isA_22 : decode cX8_isA 22 = .ok (.ifCond .ne 5, 3) := by decide +kernel
theorem dX8_isA_25 : decode cX8_isA 25 = .ok (.iconst 0, 1) := by decide +kernel
theorem dX8_isA_26 : decode cX8_isA 26 = .ok (.ireturn, 1) := by decide +kernel
theorem dX8_isA_27 : decode cX8_isA 27 = .ok (.aload_n 0, 1) := by decide +kernel
theorem dX8_isA_28 : decode cX8_isA 28 = .ok (.bipush 7, 2) := by decide +kernel
theorem dX8_isA_30 : decode cX8_isA 30 = .ok (.invokevirtual 187, 3) := by decide +kernel
theorem dX8_isA_33 : decode cX8_isA 33 = .ok (.pop, 1) := by decide +kernel
theorem dX8_isA_34 : decode cX8_isA 34 = .ok (.goto (-25), 3) := by decide +kernel
theorem dX8_isA_37 : decode cX8_isA 37 = .ok (.iconst 1, 1) := by decide +kernel
theorem dX8_isA_38 : decode cX8_isA 38 = .ok (.ireturn, 1) := by decide +kernel
theorem dX8_isE_0 : decode cX8_isE 0 = .ok (.aload_n 0, 1) := by decide +kernel
theorem dX8_isE_1 : decode cX8_isE 1 = .ok (.invokevirtual 215, 3) := by decide +kernel
theorem dX8_isE_4 : decode cX8_isE 4 = .ok (.ifCond .ne 5, 3) := by decide +kernel
theorem dX8_isE_7 : decode cX8_isE 7 = .ok (.iconst 0, 1) := by decide +kernel
theorem dX8_isE_8 : decode cX8_isE 8 = .ok (.ireturn, 1) := by decide +kernel
theorem dX8_isE_9 : decode cX8_isE 9 = .ok (.aload_n 0, 1) := by decide +kernel
theorem dX8_isE_10 : decode cX8_isE 10 = .ok (.bipush 124, 2) := by decide +kernel
theorem dX8_isE_12 : decode cX8_isE 12 = .ok (.invokevirtual 197, 3) := by decide +kernel
theorem dX8_isE_15 : decode cX8_isE 15 = .ok (.ifCond .eq 22, 3) := by decide +kernel
theorem dX8_isE_18 : decode cX8_isE 18 = .ok (.aload_n 0, 1) := by decide +kernel
theorem dX8_isE_19 : decode cX8_isE 19 = .ok (.invokevirtual 215, 3) := by decide +kernel
theorem dX8_isE_22 : decode cX8_isE 22 = .ok (.ifCond .ne 5, 3) := by decide +kernel
theorem dX8_isE_25 : decode cX8_isE 25 = .ok (.iconst 0, 1) := by decide +kernel
theorem dX8_isE_26 : decode cX8_isE 26 = .ok (.ireturn, 1) := by decide +kernel
theorem dX8_isE_27 : decode cX8_isE 27 = .ok (.aload_n 0, 1) := by decide +kernel
theorem dX8_isE_28 : decode cX8_isE 28 = .ok (.bipush 6, 2) := by decide +kernel
theorem dX8_isE_30 : decode cX8_isE 30 = .ok (.invokevirtual 187, 3) := by decide +kernel
theorem dX8_isE_33 : decode cX8_isE 33 = .ok (.pop, 1) := by decide +kernel
theorem dX8_isE_34 : decode cX8_isE 34 = .ok (.goto (-25), 3) := by decide +kernel
theorem dX8_isE_37 : decode cX8_isE 37 = .ok (.iconst 1, 1) := by decide +kernel
theorem dX8_isE_38 : decode cX8_isE 38 = .ok (.ireturn, 1) := by decide +kernel
theorem dX8_isLine_0 : decode cX8_isLine 0 = .ok (.aload_n 0, 1) := by decide +kernel
theorem dX8_isLine_1 : decode cX8_isLine 1 = .ok (.getfield 51, 3) := by decide +kernel
theorem dX8_isLine_4 : decode cX8_isLine 4 = .ok (.aload_n 0, 1) := by decide +kernel
theorem dX8_isLine_5 : decode cX8_isLine 5 = .ok (.getfield 218, 3) := by decide +kernel
theorem dX8_isLine_8 : decode cX8_isLine 8 = .ok (.aload_n 0, 1) := by decide +kernel
theorem dX8_isLine_9 : decode cX8_isLine 9 = .ok (.getfield 180, 3) := by decide +kernel
theorem dX8_isLine_12 : decode cX8_isLine 12 = .ok (.iastore, 1) := by decide +kernel
theorem dX8_isLine_13 : decode cX8_isLine 13 = .ok (.aload_n 0, 1) := by decide +kernel
theorem dX8_isLine_14 : decode cX8_isLine 14 = .ok (.invokevirtual 203, 3) := by decide +kernel
theorem dX8_isLine_17 : decode cX8_isLine 17 = .ok (.ifCond .ne 5, 3) := by decide +kernel
theorem dX8_isLine_20 : decode cX8_isLine 20 = .ok (.iconst 0, 1) := by decide +kernel
theorem dX8_isLine_21 : decode cX8_isLine 21 = .ok (.ireturn, 1) := by decide +kernel
theorem dX8_isLine_22 : decode cX8_isLine 22 = .ok (.aload_n 0, 1) := by decide +kernel
theorem dX8_isLine_23 : decode cX8_isLine 23 = .ok (.getfield 54, 3) := by decide +kernel
theorem dX8_isLine_26 : decode cX8_isLine 26 = .ok (.aload_n 0, 1) := by decide +kernel
theorem dX8_isLine_27 : decode cX8_isLine 27 = .ok (.getfield 218, 3) := by decide +kernel
theorem dX8_isLine_30 : decode cX8_isLine 30 = .ok (.aload_n 0, 1) := by decide +kernel
theorem dX8_isLine_31 : decode cX8_isLine 31 = .ok (.getfield 51, 3) := by decide +kernel
theorem dX8_isLine_34 : decode cX8_isLine 34 = .ok (.aload_n 0, 1) := by decide +kernel
theorem dX8_isLine_35 : decode cX8_isLine 35 = .ok (.getfield 218, 3) := by decide +kernel
theorem dX8_isLine_38 : decode cX8_isLine 38 = .ok (.iaload, 1) := by decide +kernel
theorem dX8_isLine_39 : decode cX8_isLine 39 = .ok (.iastore, 1) := by decide +kernel
theorem dX8_isLine_40 : decode cX8_isLine 40 = .ok (.aload_n 0, 1) := by decide +kernel
theorem dX8_isLine_41 : decode cX8_isLine 41 = .ok (.bipush 63, 2) := by decide +kernel
theorem dX8_isLine_43 : decode cX8_isLine 43 = .ok (.invokevirtual 197, 3) := by decide +kernel
theorem dX8_isLine_46 : decode cX8_isLine 46 = .ok (.ifCond .eq 25, 3) := by decide +kernel
theorem dX8_isLine_49 : decode cX8_isLine 49 = .ok (.aload_n 0, 1) := by decide +kernel
theorem dX8_isLine_50 : decode cX8_isLine 50 = .ok (.getfield 54, 3) := by decide +kernel
theorem dX8_isLine_53 : decode cX8_isLine 53 = .ok (.aload_n 0, 1) := by decide +kernel
theorem dX8_isLine_54 : decode cX8_isLine 54 = .ok (.getfield 218, 3) := by decide +kernel
theorem dX8_isLine_57 : decode cX8_isLine 57 = .ok (.aload_n 0, 1) := by decide +kernel
theorem dX8_isLine_58 : decode cX8_isLine 58 = .ok (.getfield 180, 3) := by decide +kernel
theorem dX8_isLine_61 : decode cX8_isLine 61 = .ok (.iastore, 1) := by decide +kernel
theorem dX8_isLine_62 : decode cX8_isLine 62 = .ok (.aload_n 0, 1) := by decide +kernel
theorem dX8_isLine_63 : decode cX8_isLine 63 = .ok (.invokevirtual 203, 3) := by decide +kernel
theorem dX8_isLine_66 : decode cX8_isLine 66 = .ok (.ifCond .ne 5, 3) := by decide +kernel
theorem dX8_isLine_69 : decode cX8_isLine 69 = .ok (.iconst 0, 1) := by decide +kernel
theorem dX8_isLine_70 : decode cX8_isLine 70 = .ok (.ireturn, 1) := by decide +kernel
theorem dX8_isLine_71 : decode cX8_isLine 71 = .ok (.aload_n 0, 1) := by decide +kernel
theorem dX8_isLine_72 : decode cX8_isLine 72 = .ok (.getfield 57, 3) := by decide +kernel
theorem dX8_isLine_75 : decode cX8_isLine 75 = .ok (.aload_n 0, 1) := by decide +kernel
theorem dX8_isLine_76 : decode cX8_isLine 76 = .ok (.dup, 1) := by decide +kernel
theorem dX8_isLine_77 : decode cX8_isLine 77 = .ok (.getfield 218, 3) := by decide +kernel
theorem dX8_isLine_80 : decode cX8_isLine 80 = .ok (.dup_x1, 1) := by decide +kernel
theorem dX8_isLine_81 : decode cX8_isLine 81 = .ok (.iconst 1, 1) := by decide +kernel
theorem dX8_isLine_82 : decode cX8_isLine 82 = .ok (.iadd, 1) := by decide +kernel
theorem dX8_isLine_83 : decode cX8_isLine 83 = .ok (.putfield 218, 3) := by decide +kernel
theorem dX8_isLine_86 : decode cX8_isLine 86 = .ok (.aload_n 0, 1) := by decide +kernel
theorem dX8_isLine_87 : decode cX8_isLine 87 = .ok (.getfield 180, 3) := by decide +kernel
theorem dX8_isLine_90 : decode cX8_isLine 90 = .ok (.iastore, 1) := by decide +kernel
theorem dX8_isLine_91 : decode cX8_isLine 91 = .ok (.iconst 1, 1) := by decide +kernel
theorem dX8_isLine_92 : decode cX8_isLine 92 = .ok (.ireturn, 1) := by decide +kernel
theorem dX8_law_0 : decode cX8_law 0 = .ok (.aload_n 0, 1) := by decide +kernel
theorem dX8_law_1 : decode cX8_law 1 = .ok (.iconst 0, 1) := by decide +kernel
theorem dX8_law_2 : decode cX8_law 2 = .ok (.putfield 173, 3) := by decide +kernel
theorem dX8_law_5 : decode cX8_law 5 = .ok (.aload_n 0, 1) := by decide +kernel
theorem dX8_law_6 : decode cX8_law 6 = .ok (.iconst 0, 1) := by decide +kernel
theorem dX8_law_7 : decode cX8_law 7 = .ok (.putfield 194, 3) := by decide +kernel
theorem dX8_law_10 : decode cX8_law 10 = .ok (.aload_n 0, 1) := by decide +kernel
theorem dX8_law_11 : decode cX8_law 11 = .ok (.iconst 0, 1) := by decide +kernel
theorem dX8_law_12 : decode cX8_law 12 = .ok (.putfield 180, 3) := by decide +kernel
theorem dX8_law_15 : decode cX8_law 15 = .ok (.aload_n 0, 1) := by decide +kernel
theorem dX8_law_16 : decode cX8_law 16 = .ok (.iconst 0, 1) := by decide +kernel
theorem dX8_law_17 : decode cX8_law 17 = .ok (.putfield 218, 3) := by decide +kernel
theorem dX8_law_20 : decode cX8_law 20 = .ok (.aload_n 0, 1) := by decide +kernel
theorem dX8_law_21 : decode cX8_law 21 = .ok (.invokevirtual 221, 3) := by decide +kernel
theorem dX8_law_24 : decode cX8_law 24 = .ok (.istore_n 1, 1) := by decide +kernel
theorem dX8_law_25 : decode cX8_law 25 = .ok (.iload_n 1, 1) := by decide +kernel
theorem dX8_law_26 : decode cX8_law 26 = .ok (.ifCond .eq 20, 3) := by decide +kernel
theorem dX8_law_29 : decode cX8_law 29 = .ok (.aload_n 0, 1) := by decide +kernel
theorem dX8_law_30 : decode cX8_law 30 = .ok (.bipush 59, 2) := by decide +kernel
theorem dX8_law_32 : decode cX8_law 32 = .ok (.invokevirtual 197, 3) := by decide +kernel
theorem dX8_law_35 : decode cX8_law 35 = .ok (.ifCond .eq 11, 3) := by decide +kernel
theorem dX8_law_38 : decode cX8_law 38 = .ok (.aload_n 0, 1) := by decide +kernel
theorem dX8_law_39 : decode cX8_law 39 = .ok (.invokevirtual 221, 3) := by decide +kernel
theorem dX8_law_42 : decode cX8_law 42 = .ok (.istore_n 1, 1) := by decide +kernel
theorem dX8_law_43 : decode cX8_law 43 = .ok (.goto (-18), 3) := by decide +kernel
theorem dX8_law_46 : decode cX8_law 46 = .ok (.iload_n 1, 1) := by decide +kernel
theorem dX8_law_47 : decode cX8_law 47 = .ok (.ifCond .eq 18, 3) := by decide +kernel
theorem dX8_law_50 : decode cX8_law 50 = .ok (.aload_n 0, 1) := by decide +kernel
theorem dX8_law_51 : decode cX8_law 51 = .ok (.getfield 173, 3) := by decide +kernel
theorem dX8_law_54 : decode cX8_law 54 = .ok (.aload_n 0, 1) := by decide +kernel
theorem dX8_law_55 : decode cX8_law 55 = .ok (.getfield 170, 3) := by decide +kernel
theorem dX8_law_58 : decode cX8_law 58 = .ok (.if_icmp .ne 7, 3) := by decide +kernel
theorem dX8_law_61 : decode cX8_law 61 = .ok (.iconst 1, 1) := by decide +kernel
theorem dX8_law_62 : decode cX8_law 62 = .ok (.goto 4, 3) := by decide +kernel
theorem dX8_law_65 : decode cX8_law 65 = .ok (.iconst 0, 1) := by decide +kernel
theorem dX8_law_66 : decode cX8_law 66 = .ok (.istore_n 2, 1) := by decide +kernel
theorem dX8_law_67 : decode cX8_law 67 = .ok (.aload_n 0, 1) := by decide +kernel
theorem dX8_law_68 : decode cX8_law 68 = .ok (.iconst 0, 1) := by decide +kernel
theorem dX8_law_69 : decode cX8_law 69 = .ok (.putfield 170, 3) := by decide +kernel
theorem dX8_law_72 : decode cX8_law 72 = .ok (.iload_n 2, 1) := by decide +kernel
theorem dX8_law_73 : decode cX8_law 73 = .ok (.ifCond .ne 11, 3) := by decide +kernel
theorem dX8_law_76 : decode cX8_law 76 = .ok (.bipush (-100), 2) := by decide +kernel
theorem dX8_law_78 : decode cX8_law 78 = .ok (.aload_n 0, 1) := by decide +kernel
theorem dX8_law_79 : decode cX8_law 79 = .ok (.getfield 173, 3) := by decide +kernel
theorem dX8_law_82 : decode cX8_law 82 = .ok (.isub, 1) := by decide +kernel
theorem dX8_law_83 : decode cX8_law 83 = .ok (.ireturn, 1) := by decide +kernel
theorem dX8_law_84 : decode cX8_law 84 = .ok (.aload_n 0, 1) := by decide +kernel
theorem dX8_law_85 : decode cX8_law 85 = .ok (.iconst 1, 1) := by decide +kernel
theorem dX8_law_86 : decode cX8_law 86 = .ok (.putfield 224, 3) := by decide +kernel
theorem dX8_law_89 : decode cX8_law 89 = .ok (.aload_n 0, 1) := by decide +kernel
theorem dX8_law_90 : decode cX8_law 90 = .ok (.aload_n 0, 1) := by decide +kernel
theorem dX8_law_91 : decode cX8_law 91 = .ok (.getfield 218, 3) := by decide +kernel
theorem dX8_law_94 : decode cX8_law 94 = .ok (.putfield 228, 3) := by decide +kernel
theorem dX8_law_97 : decode cX8_law 97 = .ok (.iconst 0, 1) := by decide +kernel
theorem dX8_law_98 : decode cX8_law 98 = .ok (.istore_n 3, 1) := by decide +kernel
theorem dX8_law_99 : decode cX8_law 99 = .ok (.iload_n 3, 1) := by decide +kernel
theorem dX8_law_100 : decode cX8_law 100 = .ok (.aload_n 0, 1) := by decide +kernel
theorem dX8_law_101 : decode cX8_law 101 = .ok (.getfield 228, 3) := by decide +kernel
theorem dX8_law_104 : decode cX8_law 104 = .ok (.if_icmp .ge 45, 3) := by decide +kernel
theorem dX8_law_107 : decode cX8_law 107 = .ok (.aload_n 0, 1) := by decide +kernel
theorem dX8_law_108 : decode cX8_law 108 = .ok (.getfield 39, 3) := by decide +kernel
theorem dX8_law_111 : decode cX8_law 111 = .ok (.iload_n 3, 1) := by decide +kernel
theorem dX8_law_112 : decode cX8_law 112 = .ok (.aload_n 0, 1) := by decide +kernel
theorem dX8_law_113 : decode cX8_law 113 = .ok (.getfield 51, 3) := by decide +kernel
theorem dX8_law_116 : decode cX8_law 116 = .ok (.iload_n 3, 1) := by decide +kernel
theorem dX8_law_117 : decode cX8_law 117 = .ok (.iaload, 1) := by decide +kernel
theorem dX8_law_118 : decode cX8_law 118 = .ok (.iastore, 1) := by decide +kernel
theorem dX8_law_119 : decode cX8_law 119 = .ok (.aload_n 0, 1) := by decide +kernel
theorem dX8_law_120 : decode cX8_law 120 = .ok (.getfield 42, 3) := by decide +kernel
theorem dX8_law_123 : decode cX8_law 123 = .ok (.iload_n 3, 1) := by decide +kernel
theorem dX8_law_124 : decode cX8_law 124 = .ok (.aload_n 0, 1) := by decide +kernel
theorem dX8_law_125 : decode cX8_law 125 = .ok (.getfield 54, 3) := by decide +kernel
theorem dX8_law_128 : decode cX8_law 128 = .ok (.iload_n 3, 1) := by decide +kernel
theorem dX8_law_129 : decode cX8_law 129 = .ok (.iaload, 1) := by decide +kernel
theorem dX8_law_130 : decode cX8_law 130 = .ok (.iastore, 1) := by decide +kernel
theorem dX8_law_131 : decode cX8_law 131 = .ok (.aload_n 0, 1) := by decide +kernel
theorem dX8_law_132 : decode cX8_law 132 = .ok (.getfield 45, 3) := by decide +kernel
theorem dX8_law_135 : decode cX8_law 135 = .ok (.iload_n 3, 1) := by decide +kernel
theorem dX8_law_136 : decode cX8_law 136 = .ok (.aload_n 0, 1) := by decide +kernel
theorem dX8_law_137 : decode cX8_law 137 = .ok (.getfield 57, 3) := by decide +kernel
theorem dX8_law_140 : decode cX8_law 140 = .ok (.iload_n 3, 1) := by decide +kernel
theorem dX8_law_141 : decode cX8_law 141 = .ok (.iaload, 1) := by decide +kernel
theorem dX8_law_142 : decode cX8_law 142 = .ok (.iastore, 1) := by decide +kernel
theorem dX8_law_143 : decode cX8_law 143 = .ok (.iinc 3 1, 3) := by decide +kernel
theorem dX8_law_146 : decode cX8_law 146 = .ok (.goto (-47), 3) := by decide +kernel
theorem dX8_law_149 : decode cX8_law 149 = .ok (.iconst 0, 1) := by decide +kernel
theorem dX8_law_150 : decode cX8_law 150 = .ok (.istore_n 3, 1) := by decide +kernel
theorem dX8_law_151 : decode cX8_law 151 = .ok (.iload_n 3, 1) := by decide +kernel
theorem dX8_law_152 : decode cX8_law 152 = .ok (.aload_n 0, 1) := by decide +kernel
theorem dX8_law_153 : decode cX8_law 153 = .ok (.getfield 180, 3) := by decide +kernel
theorem dX8_law_156 : decode cX8_law 156 = .ok (.if_icmp .ge 21, 3) := by decide +kernel
theorem dX8_law_159 : decode cX8_law 159 = .ok (.aload_n 0, 1) := by decide +kernel
theorem dX8_law_160 : decode cX8_law 160 = .ok (.getfield 48, 3) := by decide +kernel
theorem dX8_law_163 : decode cX8_law 163 = .ok (.iload_n 3, 1) := by decide +kernel
theorem dX8_law_164 : decode cX8_law 164 = .ok (.aload_n 0, 1) := by decide +kernel
theorem dX8_law_165 : decode cX8_law 165 = .ok (.getfield 60, 3) := by decide +kernel
theorem dX8_law_168 : decode cX8_law 168 = .ok (.iload_n 3, 1) := by decide +kernel
theorem dX8_law_169 : decode cX8_law 169 = .ok (.iaload, 1) := by decide +kernel
theorem dX8_law_170 : decode cX8_law 170 = .ok (.iastore, 1) := by decide +kernel
theorem dX8_law_171 : decode cX8_law 171 = .ok (.iinc 3 1, 3) := by decide +kernel
theorem dX8_law_174 : decode cX8_law 174 = .ok (.goto (-23), 3) := by decide +kernel
theorem dX8_law_177 : decode cX8_law 177 = .ok (.iconst 1, 1) := by decide +kernel
theorem dX8_law_178 : decode cX8_law 178 = .ok (.ireturn, 1) := by decide +kernel
theorem dX8_both_0 : decode cX8_both 0 = .ok (.iload_n 0, 1) := by decide +kernel
theorem dX8_both_1 : decode cX8_both 1 = .ok (.tableswitch 136 6 14 #[51, 65, 79, 90, 101, 112, 116, 120, 124], 51) := by decide +kernel
theorem dX8_both_52 : decode cX8_both 52 = .ok (.iload_n 1, 1) := by decide +kernel
theorem dX8_both_53 : decode cX8_both 53 = .ok (.ifCond .ne 7, 3) := by decide +kernel
theorem dX8_both_56 : decode cX8_both 56 = .ok (.iload_n 2, 1) := by decide +kernel
theorem dX8_both_57 : decode cX8_both 57 = .ok (.ifCond .eq 7, 3) := by decide +kernel
theorem dX8_both_60 : decode cX8_both 60 = .ok (.iconst 1, 1) := by decide +kernel
theorem dX8_both_61 : decode cX8_both 61 = .ok (.goto 4, 3) := by decide +kernel
theorem dX8_both_64 : decode cX8_both 64 = .ok (.iconst 0, 1) := by decide +kernel
theorem dX8_both_65 : decode cX8_both 65 = .ok (.ireturn, 1) := by decide +kernel
theorem dX8_both_66 : decode cX8_both 66 = .ok (.iload_n 1, 1) := by decide +kernel
theorem dX8_both_67 : decode cX8_both 67 = .ok (.ifCond .eq 11, 3) := by decide +kernel
theorem dX8_both_70 : decode cX8_both 70 = .ok (.iload_n 2, 1) := by decide +kernel
theorem dX8_both_71 : decode cX8_both 71 = .ok (.ifCond .eq 7, 3) := by decide +kernel
theorem dX8_both_74 : decode cX8_both 74 = .ok (.iconst 1, 1) := by decide +kernel
theorem dX8_both_75 : decode cX8_both 75 = .ok (.goto 4, 3) := by decide +kernel
theorem dX8_both_78 : decode cX8_both 78 = .ok (.iconst 0, 1) := by decide +kernel
theorem dX8_both_79 : decode cX8_both 79 = .ok (.ireturn, 1) := by decide +kernel
theorem dX8_both_80 : decode cX8_both 80 = .ok (.iload_n 1, 1) := by decide +kernel
theorem dX8_both_81 : decode cX8_both 81 = .ok (.iload_n 2, 1) := by decide +kernel
theorem dX8_both_82 : decode cX8_both 82 = .ok (.if_icmp .ge 7, 3) := by decide +kernel
theorem dX8_both_85 : decode cX8_both 85 = .ok (.iconst 1, 1) := by decide +kernel
theorem dX8_both_86 : decode cX8_both 86 = .ok (.goto 4, 3) := by decide +kernel
theorem dX8_both_89 : decode cX8_both 89 = .ok (.iconst 0, 1) := by decide +kernel
theorem dX8_both_90 : decode cX8_both 90 = .ok (.ireturn, 1) := by decide +kernel
theorem dX8_both_91 : decode cX8_both 91 = .ok (.iload_n 1, 1) := by decide +kernel
theorem dX8_both_92 : decode cX8_both 92 = .ok (.iload_n 2, 1) := by decide +kernel
theorem dX8_both_93 : decode cX8_both 93 = .ok (.if_icmp .ne 7, 3) := by decide +kernel
theorem dX8_both_96 : decode cX8_both 96 = .ok (.iconst 1, 1) := by decide +kernel
theorem dX8_both_97 : decode cX8_both 97 = .ok (.goto 4, 3) := by decide +kernel
theorem dX8_both_100 : decode cX8_both 100 = .ok (.iconst 0, 1) := by decide +kernel
theorem dX8_both_101 : decode cX8_both 101 = .ok (.ireturn, 1) := by decide +kernel
theorem dX8_both_102 : decode cX8_both 102 = .ok (.iload_n 1, 1) := by decide +kernel
theorem dX8_both_103 : decode cX8_both 103 = .ok (.iload_n 2, 1) := by decide +kernel
theorem dX8_both_104 : decode cX8_both 104 = .ok (.if_icmp .le 7, 3) := by decide +kernel
theorem dX8_both_107 : decode cX8_both 107 = .ok (.iconst 1, 1) := by decide +kernel
theorem dX8_both_108 : decode cX8_both 108 = .ok (.goto 4, 3) := by decide +kernel
theorem dX8_both_111 : decode cX8_both 111 = .ok (.iconst 0, 1) := by decide +kernel
theorem dX8_both_112 : decode cX8_both 112 = .ok (.ireturn, 1) := by decide +kernel
theorem dX8_both_113 : decode cX8_both 113 = .ok (.iload_n 1, 1) := by decide +kernel
theorem dX8_both_114 : decode cX8_both 114 = .ok (.iload_n 2, 1) := by decide +kernel
theorem dX8_both_115 : decode cX8_both 115 = .ok (.iadd, 1) := by decide +kernel
theorem dX8_both_116 : decode cX8_both 116 = .ok (.ireturn, 1) := by decide +kernel
theorem dX8_both_117 : decode cX8_both 117 = .ok (.iload_n 1, 1) := by decide +kernel
theorem dX8_both_118 : decode cX8_both 118 = .ok (.iload_n 2, 1) := by decide +kernel
theorem dX8_both_119 : decode cX8_both 119 = .ok (.isub, 1) := by decide +kernel
theorem dX8_both_120 : decode cX8_both 120 = .ok (.ireturn, 1) := by decide +kernel
theorem dX8_both_121 : decode cX8_both 121 = .ok (.iload_n 1, 1) := by decide +kernel
theorem dX8_both_122 : decode cX8_both 122 = .ok (.iload_n 2, 1) := by decide +kernel
theorem dX8_both_123 : decode cX8_both 123 = .ok (.imul, 1) := by decide +kernel
theorem dX8_both_124 : decode cX8_both 124 = .ok (.ireturn, 1) := by decide +kernel
theorem dX8_both_125 : decode cX8_both 125 = .ok (.iload_n 2, 1) := by decide +kernel
theorem dX8_both_126 : decode cX8_both 126 = .ok (.ifCond .ne 7, 3) := by decide +kernel
theorem dX8_both_129 : decode cX8_both 129 = .ok (.iconst 0, 1) := by decide +kernel
theorem dX8_both_130 : decode cX8_both 130 = .ok (.goto 6, 3) := by decide +kernel
theorem dX8_both_133 : decode cX8_both 133 = .ok (.iload_n 1, 1) := by decide +kernel
theorem dX8_both_134 : decode cX8_both 134 = .ok (.iload_n 2, 1) := by decide +kernel
theorem dX8_both_135 : decode cX8_both 135 = .ok (.idiv, 1) := by decide +kernel
theorem dX8_both_136 : decode cX8_both 136 = .ok (.ireturn, 1) := by decide +kernel
theorem dX8_both_137 : decode cX8_both 137 = .ok (.iload_n 2, 1) := by decide +kernel
theorem dX8_both_138 : decode cX8_both 138 = .ok (.ifCond .ne 7, 3) := by decide +kernel
theorem dX8_both_141 : decode cX8_both 141 = .ok (.iconst 0, 1) := by decide +kernel
theorem dX8_both_142 : decode cX8_both 142 = .ok (.goto 6, 3) := by decide +kernel
theorem dX8_both_145 : decode cX8_both 145 = .ok (.iload_n 1, 1) := by decide +kernel
theorem dX8_both_146 : decode cX8_both 146 = .ok (.iload_n 2, 1) := by decide +kernel
theorem dX8_both_147 : decode cX8_both 147 = .ok (.irem, 1) := by decide +kernel
theorem dX8_both_148 : decode cX8_both 148 = .ok (.ireturn, 1) := by decide +kernel
theorem dX8_worked_0 : decode cX8_worked 0 = .ok (.iconst 0, 1) := by decide +kernel
theorem dX8_worked_1 : decode cX8_worked 1 = .ok (.istore_n 3, 1) := by decide +kernel
theorem dX8_worked_2 : decode cX8_worked 2 = .ok (.iload_n 1, 1) := by decide +kernel
theorem dX8_worked_3 : decode cX8_worked 3 = .ok (.istore 4, 2) := by decide +kernel
theorem dX8_worked_5 : decode cX8_worked 5 = .ok (.iload 4, 2) := by decide +kernel
theorem dX8_worked_7 : decode cX8_worked 7 = .ok (.iload_n 2, 1) := by decide +kernel
theorem dX8_worked_8 : decode cX8_worked 8 = .ok (.if_icmp .ge 155, 3) := by decide +kernel
theorem dX8_worked_11 : decode cX8_worked 11 = .ok (.aload_n 0, 1) := by decide +kernel
theorem dX8_worked_12 : decode cX8_worked 12 = .ok (.getfield 48, 3) := by decide +kernel
theorem dX8_worked_15 : decode cX8_worked 15 = .ok (.iload 4, 2) := by decide +kernel
theorem dX8_worked_17 : decode cX8_worked 17 = .ok (.iaload, 1) := by decide +kernel
theorem dX8_worked_18 : decode cX8_worked 18 = .ok (.istore 5, 2) := by decide +kernel
theorem dX8_worked_20 : decode cX8_worked 20 = .ok (.iload 5, 2) := by decide +kernel
theorem dX8_worked_22 : decode cX8_worked 22 = .ok (.bipush 18, 2) := by decide +kernel
theorem dX8_worked_24 : decode cX8_worked 24 = .ok (.if_icmp .ge 9, 3) := by decide +kernel
theorem dX8_worked_27 : decode cX8_worked 27 = .ok (.iload 5, 2) := by decide +kernel
theorem dX8_worked_29 : decode cX8_worked 29 = .ok (.iconst 5, 1) := by decide +kernel
theorem dX8_worked_30 : decode cX8_worked 30 = .ok (.if_icmp .gt 37, 3) := by decide +kernel
theorem dX8_worked_33 : decode cX8_worked 33 = .ok (.aload_n 0, 1) := by decide +kernel
theorem dX8_worked_34 : decode cX8_worked 34 = .ok (.getfield 63, 3) := by decide +kernel
theorem dX8_worked_37 : decode cX8_worked 37 = .ok (.iload_n 3, 1) := by decide +kernel
theorem dX8_worked_38 : decode cX8_worked 38 = .ok (.iinc 3 1, 3) := by decide +kernel
theorem dX8_worked_41 : decode cX8_worked 41 = .ok (.iload 5, 2) := by decide +kernel
theorem dX8_worked_43 : decode cX8_worked 43 = .ok (.bipush 18, 2) := by decide +kernel
theorem dX8_worked_45 : decode cX8_worked 45 = .ok (.if_icmp .lt 11, 3) := by decide +kernel
theorem dX8_worked_48 : decode cX8_worked 48 = .ok (.iload 5, 2) := by decide +kernel
theorem dX8_worked_50 : decode cX8_worked 50 = .ok (.bipush 18, 2) := by decide +kernel
theorem dX8_worked_52 : decode cX8_worked 52 = .ok (.isub, 1) := by decide +kernel
theorem dX8_worked_53 : decode cX8_worked 53 = .ok (.goto 10, 3) := by decide +kernel
theorem dX8_worked_56 : decode cX8_worked 56 = .ok (.aload_n 0, 1) := by decide +kernel
theorem dX8_worked_57 : decode cX8_worked 57 = .ok (.getfield 66, 3) := by decide +kernel
theorem dX8_worked_60 : decode cX8_worked 60 = .ok (.iload 5, 2) := by decide +kernel
theorem dX8_worked_62 : decode cX8_worked 62 = .ok (.iaload, 1) := by decide +kernel
theorem dX8_worked_63 : decode cX8_worked 63 = .ok (.iastore, 1) := by decide +kernel
theorem dX8_worked_64 : decode cX8_worked 64 = .ok (.goto 93, 3) := by decide +kernel
theorem dX8_worked_67 : decode cX8_worked 67 = .ok (.iload 5, 2) := by decide +kernel
theorem dX8_worked_69 : decode cX8_worked 69 = .ok (.bipush 16, 2) := by decide +kernel
theorem dX8_worked_71 : decode cX8_worked 71 = .ok (.if_icmp .eq 10, 3) := by decide +kernel
theorem dX8_worked_74 : decode cX8_worked 74 = .ok (.iload 5, 2) := by decide +kernel
theorem dX8_worked_76 : decode cX8_worked 76 = .ok (.bipush 17, 2) := by decide +kernel
theorem dX8_worked_78 : decode cX8_worked 78 = .ok (.if_icmp .ne 49, 3) := by decide +kernel
theorem dX8_worked_81 : decode cX8_worked 81 = .ok (.aload_n 0, 1) := by decide +kernel
theorem dX8_worked_82 : decode cX8_worked 82 = .ok (.getfield 63, 3) := by decide +kernel
theorem dX8_worked_85 : decode cX8_worked 85 = .ok (.iload_n 3, 1) := by decide +kernel
theorem dX8_worked_86 : decode cX8_worked 86 = .ok (.iconst 1, 1) := by decide +kernel
theorem dX8_worked_87 : decode cX8_worked 87 = .ok (.isub, 1) := by decide +kernel
theorem dX8_worked_88 : decode cX8_worked 88 = .ok (.iload 5, 2) := by decide +kernel
theorem dX8_worked_90 : decode cX8_worked 90 = .ok (.bipush 17, 2) := by decide +kernel
theorem dX8_worked_92 : decode cX8_worked 92 = .ok (.if_icmp .ne 15, 3) := by decide +kernel
theorem dX8_worked_95 : decode cX8_worked 95 = .ok (.aload_n 0, 1) := by decide +kernel
theorem dX8_worked_96 : decode cX8_worked 96 = .ok (.getfield 63, 3) := by decide +kernel
theorem dX8_worked_99 : decode cX8_worked 99 = .ok (.iload_n 3, 1) := by decide +kernel
theorem dX8_worked_100 : decode cX8_worked 100 = .ok (.iconst 1, 1) := by decide +kernel
theorem dX8_worked_101 : decode cX8_worked 101 = .ok (.isub, 1) := by decide +kernel
theorem dX8_worked_102 : decode cX8_worked 102 = .ok (.iaload, 1) := by decide +kernel
theorem dX8_worked_103 : decode cX8_worked 103 = .ok (.ineg, 1) := by decide +kernel
theorem dX8_worked_104 : decode cX8_worked 104 = .ok (.goto 19, 3) := by decide +kernel
theorem dX8_worked_107 : decode cX8_worked 107 = .ok (.aload_n 0, 1) := by decide +kernel
theorem dX8_worked_108 : decode cX8_worked 108 = .ok (.getfield 63, 3) := by decide +kernel
theorem dX8_worked_111 : decode cX8_worked 111 = .ok (.iload_n 3, 1) := by decide +kernel
theorem dX8_worked_112 : decode cX8_worked 112 = .ok (.iconst 1, 1) := by decide +kernel
theorem dX8_worked_113 : decode cX8_worked 113 = .ok (.isub, 1) := by decide +kernel
theorem dX8_worked_114 : decode cX8_worked 114 = .ok (.iaload, 1) := by decide +kernel
theorem dX8_worked_115 : decode cX8_worked 115 = .ok (.ifCond .ne 7, 3) := by decide +kernel
theorem dX8_worked_118 : decode cX8_worked 118 = .ok (.iconst 1, 1) := by decide +kernel
theorem dX8_worked_119 : decode cX8_worked 119 = .ok (.goto 4, 3) := by decide +kernel
theorem dX8_worked_122 : decode cX8_worked 122 = .ok (.iconst 0, 1) := by decide +kernel
theorem dX8_worked_123 : decode cX8_worked 123 = .ok (.iastore, 1) := by decide +kernel
theorem dX8_worked_124 : decode cX8_worked 124 = .ok (.goto 33, 3) := by decide +kernel
theorem dX8_worked_127 : decode cX8_worked 127 = .ok (.iinc 3 (-1), 3) := by decide +kernel
theorem dX8_worked_130 : decode cX8_worked 130 = .ok (.aload_n 0, 1) := by decide +kernel
theorem dX8_worked_131 : decode cX8_worked 131 = .ok (.getfield 63, 3) := by decide +kernel
theorem dX8_worked_134 : decode cX8_worked 134 = .ok (.iload_n 3, 1) := by decide +kernel
theorem dX8_worked_135 : decode cX8_worked 135 = .ok (.iconst 1, 1) := by decide +kernel
theorem dX8_worked_136 : decode cX8_worked 136 = .ok (.isub, 1) := by decide +kernel
theorem dX8_worked_137 : decode cX8_worked 137 = .ok (.iload 5, 2) := by decide +kernel
theorem dX8_worked_139 : decode cX8_worked 139 = .ok (.aload_n 0, 1) := by decide +kernel
theorem dX8_worked_140 : decode cX8_worked 140 = .ok (.getfield 63, 3) := by decide +kernel
theorem dX8_worked_143 : decode cX8_worked 143 = .ok (.iload_n 3, 1) := by decide +kernel
theorem dX8_worked_144 : decode cX8_worked 144 = .ok (.iconst 1, 1) := by decide +kernel
theorem dX8_worked_145 : decode cX8_worked 145 = .ok (.isub, 1) := by decide +kernel
theorem dX8_worked_146 : decode cX8_worked 146 = .ok (.iaload, 1) := by decide +kernel
theorem dX8_worked_147 : decode cX8_worked 147 = .ok (.aload_n 0, 1) := by decide +kernel
theorem dX8_worked_148 : decode cX8_worked 148 = .ok (.getfield 63, 3) := by decide +kernel
theorem dX8_worked_151 : decode cX8_worked 151 = .ok (.iload_n 3, 1) := by decide +kernel
theorem dX8_worked_152 : decode cX8_worked 152 = .ok (.iaload, 1) := by decide +kernel
theorem dX8_worked_153 : decode cX8_worked 153 = .ok (.invokestatic 231, 3) := by decide +kernel
theorem dX8_worked_156 : decode cX8_worked 156 = .ok (.iastore, 1) := by decide +kernel
theorem dX8_worked_157 : decode cX8_worked 157 = .ok (.iinc 4 1, 3) := by decide +kernel
theorem dX8_worked_160 : decode cX8_worked 160 = .ok (.goto (-155), 3) := by decide +kernel
theorem dX8_worked_163 : decode cX8_worked 163 = .ok (.aload_n 0, 1) := by decide +kernel
theorem dX8_worked_164 : decode cX8_worked 164 = .ok (.getfield 63, 3) := by decide +kernel
theorem dX8_worked_167 : decode cX8_worked 167 = .ok (.iconst 0, 1) := by decide +kernel
theorem dX8_worked_168 : decode cX8_worked 168 = .ok (.iaload, 1) := by decide +kernel
theorem dX8_worked_169 : decode cX8_worked 169 = .ok (.ireturn, 1) := by decide +kernel
theorem dX8_sees_0 : decode cX8_sees 0 = .ok (.iconst 0, 1) := by decide +kernel
theorem dX8_sees_1 : decode cX8_sees 1 = .ok (.istore_n 3, 1) := by decide +kernel
theorem dX8_sees_2 : decode cX8_sees 2 = .ok (.iconst 0, 1) := by decide +kernel
theorem dX8_sees_3 : decode cX8_sees 3 = .ok (.istore 4, 2) := by decide +kernel
theorem dX8_sees_5 : decode cX8_sees 5 = .ok (.iload 4, 2) := by decide +kernel
theorem dX8_sees_7 : decode cX8_sees 7 = .ok (.aload_n 0, 1) := by decide +kernel
theorem dX8_sees_8 : decode cX8_sees 8 = .ok (.getfield 113, 3) := by decide +kernel
theorem dX8_sees_11 : decode cX8_sees 11 = .ok (.if_icmp .ge 45, 3) := by decide +kernel
theorem dX8_sees_14 : decode cX8_sees 14 = .ok (.iload 4, 2) := by decide +kernel
theorem dX8_sees_16 : decode cX8_sees 16 = .ok (.aload_n 0, 1) := by decide +kernel
theorem dX8_sees_17 : decode cX8_sees 17 = .ok (.getfield 21, 3) := by decide +kernel
theorem dX8_sees_20 : decode cX8_sees 20 = .ok (.iload_n 1, 1) := by decide +kernel
theorem dX8_sees_21 : decode cX8_sees 21 = .ok (.iaload, 1) := by decide +kernel
theorem dX8_sees_22 : decode cX8_sees 22 = .ok (.if_icmp .eq 28, 3) := by decide +kernel
theorem dX8_sees_25 : decode cX8_sees 25 = .ok (.iload 4, 2) := by decide +kernel
theorem dX8_sees_27 : decode cX8_sees 27 = .ok (.aload_n 0, 1) := by decide +kernel
theorem dX8_sees_28 : decode cX8_sees 28 = .ok (.getfield 24, 3) := by decide +kernel
theorem dX8_sees_31 : decode cX8_sees 31 = .ok (.iload_n 1, 1) := by decide +kernel
theorem dX8_sees_32 : decode cX8_sees 32 = .ok (.iaload, 1) := by decide +kernel
theorem dX8_sees_33 : decode cX8_sees 33 = .ok (.if_icmp .eq 17, 3) := by decide +kernel
theorem dX8_sees_36 : decode cX8_sees 36 = .ok (.aload_n 0, 1) := by decide +kernel
theorem dX8_sees_37 : decode cX8_sees 37 = .ok (.getfield 15, 3) := by decide +kernel
theorem dX8_sees_40 : decode cX8_sees 40 = .ok (.iload 4, 2) := by decide +kernel
theorem dX8_sees_42 : decode cX8_sees 42 = .ok (.iaload, 1) := by decide +kernel
theorem dX8_sees_43 : decode cX8_sees 43 = .ok (.iload_n 2, 1) := by decide +kernel
theorem dX8_sees_44 : decode cX8_sees 44 = .ok (.if_icmp .ne 6, 3) := by decide +kernel
theorem dX8_sees_47 : decode cX8_sees 47 = .ok (.iinc 3 1, 3) := by decide +kernel
theorem dX8_sees_50 : decode cX8_sees 50 = .ok (.iinc 4 1, 3) := by decide +kernel
theorem dX8_sees_53 : decode cX8_sees 53 = .ok (.goto (-48), 3) := by decide +kernel
theorem dX8_sees_56 : decode cX8_sees 56 = .ok (.iload_n 3, 1) := by decide +kernel
theorem dX8_sees_57 : decode cX8_sees 57 = .ok (.ireturn, 1) := by decide +kernel
theorem dX8_ago_0 : decode cX8_ago 0 = .ok (.iconst 0, 1) := by decide +kernel
theorem dX8_ago_1 : decode cX8_ago 1 = .ok (.aload_n 0, 1) := by decide +kernel
theorem dX8_ago_2 : decode cX8_ago 2 = .ok (.getfield 127, 3) := by decide +kernel
theorem dX8_ago_5 : decode cX8_ago 5 = .ok (.aload_n 0, 1) := by decide +kernel
theorem dX8_ago_6 : decode cX8_ago 6 = .ok (.getfield 30, 3) := by decide +kernel
theorem dX8_ago_9 : decode cX8_ago 9 = .ok (.iload_n 1, 1) := by decide +kernel
theorem dX8_ago_10 : decode cX8_ago 10 = .ok (.iaload, 1) := by decide +kernel
theorem dX8_ago_11 : decode cX8_ago 11 = .ok (.isub, 1) := by decide +kernel
theorem dX8_ago_12 : decode cX8_ago 12 = .ok (.invokestatic 234, 3) := by decide +kernel
theorem dX8_ago_15 : decode cX8_ago 15 = .ok (.ireturn, 1) := by decide +kernel
theorem dX8_byLaw_0 : decode cX8_byLaw 0 = .ok (.aload_n 0, 1) := by decide +kernel
theorem dX8_byLaw_1 : decode cX8_byLaw 1 = .ok (.getfield 66, 3) := by decide +kernel
theorem dX8_byLaw_4 : decode cX8_byLaw 4 = .ok (.iconst 0, 1) := by decide +kernel
theorem dX8_byLaw_5 : decode cX8_byLaw 5 = .ok (.aload_n 0, 1) := by decide +kernel
theorem dX8_byLaw_6 : decode cX8_byLaw 6 = .ok (.getfield 27, 3) := by decide +kernel
theorem dX8_byLaw_9 : decode cX8_byLaw 9 = .ok (.iload_n 1, 1) := by decide +kernel
theorem dX8_byLaw_10 : decode cX8_byLaw 10 = .ok (.iaload, 1) := by decide +kernel
theorem dX8_byLaw_11 : decode cX8_byLaw 11 = .ok (.iastore, 1) := by decide +kernel
theorem dX8_byLaw_12 : decode cX8_byLaw 12 = .ok (.aload_n 0, 1) := by decide +kernel
theorem dX8_byLaw_13 : decode cX8_byLaw 13 = .ok (.getfield 66, 3) := by decide +kernel
theorem dX8_byLaw_16 : decode cX8_byLaw 16 = .ok (.iconst 1, 1) := by decide +kernel
theorem dX8_byLaw_17 : decode cX8_byLaw 17 = .ok (.aload_n 0, 1) := by decide +kernel
theorem dX8_byLaw_18 : decode cX8_byLaw 18 = .ok (.iload_n 1, 1) := by decide +kernel
theorem dX8_byLaw_19 : decode cX8_byLaw 19 = .ok (.invokevirtual 239, 3) := by decide +kernel
theorem dX8_byLaw_22 : decode cX8_byLaw 22 = .ok (.iastore, 1) := by decide +kernel
theorem dX8_byLaw_23 : decode cX8_byLaw 23 = .ok (.aload_n 0, 1) := by decide +kernel
theorem dX8_byLaw_24 : decode cX8_byLaw 24 = .ok (.getfield 66, 3) := by decide +kernel
theorem dX8_byLaw_27 : decode cX8_byLaw 27 = .ok (.iconst 2, 1) := by decide +kernel
theorem dX8_byLaw_28 : decode cX8_byLaw 28 = .ok (.aload_n 0, 1) := by decide +kernel
theorem dX8_byLaw_29 : decode cX8_byLaw 29 = .ok (.getfield 18, 3) := by decide +kernel
theorem dX8_byLaw_32 : decode cX8_byLaw 32 = .ok (.aload_n 0, 1) := by decide +kernel
theorem dX8_byLaw_33 : decode cX8_byLaw 33 = .ok (.getfield 24, 3) := by decide +kernel
theorem dX8_byLaw_36 : decode cX8_byLaw 36 = .ok (.iload_n 1, 1) := by decide +kernel
theorem dX8_byLaw_37 : decode cX8_byLaw 37 = .ok (.iaload, 1) := by decide +kernel
theorem dX8_byLaw_38 : decode cX8_byLaw 38 = .ok (.iaload, 1) := by decide +kernel
theorem dX8_byLaw_39 : decode cX8_byLaw 39 = .ok (.iastore, 1) := by decide +kernel
theorem dX8_byLaw_40 : decode cX8_byLaw 40 = .ok (.aload_n 0, 1) := by decide +kernel
theorem dX8_byLaw_41 : decode cX8_byLaw 41 = .ok (.getfield 66, 3) := by decide +kernel
theorem dX8_byLaw_44 : decode cX8_byLaw 44 = .ok (.iconst 3, 1) := by decide +kernel
theorem dX8_byLaw_45 : decode cX8_byLaw 45 = .ok (.aload_n 0, 1) := by decide +kernel
theorem dX8_byLaw_46 : decode cX8_byLaw 46 = .ok (.iload_n 1, 1) := by decide +kernel
theorem dX8_byLaw_47 : decode cX8_byLaw 47 = .ok (.iload_n 2, 1) := by decide +kernel
theorem dX8_byLaw_48 : decode cX8_byLaw 48 = .ok (.invokevirtual 242, 3) := by decide +kernel
theorem dX8_byLaw_51 : decode cX8_byLaw 51 = .ok (.iastore, 1) := by decide +kernel
theorem dX8_byLaw_52 : decode cX8_byLaw 52 = .ok (.aload_n 0, 1) := by decide +kernel
theorem dX8_byLaw_53 : decode cX8_byLaw 53 = .ok (.getfield 66, 3) := by decide +kernel
theorem dX8_byLaw_56 : decode cX8_byLaw 56 = .ok (.iconst 4, 1) := by decide +kernel
theorem dX8_byLaw_57 : decode cX8_byLaw 57 = .ok (.aload_n 0, 1) := by decide +kernel
theorem dX8_byLaw_58 : decode cX8_byLaw 58 = .ok (.getfield 9, 3) := by decide +kernel
theorem dX8_byLaw_61 : decode cX8_byLaw 61 = .ok (.iload_n 2, 1) := by decide +kernel
theorem dX8_byLaw_62 : decode cX8_byLaw 62 = .ok (.iaload, 1) := by decide +kernel
theorem dX8_byLaw_63 : decode cX8_byLaw 63 = .ok (.iastore, 1) := by decide +kernel
theorem dX8_byLaw_64 : decode cX8_byLaw 64 = .ok (.aload_n 0, 1) := by decide +kernel
theorem dX8_byLaw_65 : decode cX8_byLaw 65 = .ok (.getfield 66, 3) := by decide +kernel
theorem dX8_byLaw_68 : decode cX8_byLaw 68 = .ok (.iconst 5, 1) := by decide +kernel
theorem dX8_byLaw_69 : decode cX8_byLaw 69 = .ok (.aload_n 0, 1) := by decide +kernel
theorem dX8_byLaw_70 : decode cX8_byLaw 70 = .ok (.getfield 15, 3) := by decide +kernel
theorem dX8_byLaw_73 : decode cX8_byLaw 73 = .ok (.aload_n 0, 1) := by decide +kernel
theorem dX8_byLaw_74 : decode cX8_byLaw 74 = .ok (.getfield 24, 3) := by decide +kernel
theorem dX8_byLaw_77 : decode cX8_byLaw 77 = .ok (.iload_n 1, 1) := by decide +kernel
theorem dX8_byLaw_78 : decode cX8_byLaw 78 = .ok (.iaload, 1) := by decide +kernel
theorem dX8_byLaw_79 : decode cX8_byLaw 79 = .ok (.iaload, 1) := by decide +kernel
theorem dX8_byLaw_80 : decode cX8_byLaw 80 = .ok (.iload_n 2, 1) := by decide +kernel
theorem dX8_byLaw_81 : decode cX8_byLaw 81 = .ok (.if_icmp .ne 7, 3) := by decide +kernel
theorem dX8_byLaw_84 : decode cX8_byLaw 84 = .ok (.iconst 1, 1) := by decide +kernel
theorem dX8_byLaw_85 : decode cX8_byLaw 85 = .ok (.goto 4, 3) := by decide +kernel
theorem dX8_byLaw_88 : decode cX8_byLaw 88 = .ok (.iconst 0, 1) := by decide +kernel
theorem dX8_byLaw_89 : decode cX8_byLaw 89 = .ok (.iastore, 1) := by decide +kernel
theorem dX8_byLaw_90 : decode cX8_byLaw 90 = .ok (.iconst 0, 1) := by decide +kernel
theorem dX8_byLaw_91 : decode cX8_byLaw 91 = .ok (.istore_n 3, 1) := by decide +kernel
theorem dX8_byLaw_92 : decode cX8_byLaw 92 = .ok (.iload_n 3, 1) := by decide +kernel
theorem dX8_byLaw_93 : decode cX8_byLaw 93 = .ok (.aload_n 0, 1) := by decide +kernel
theorem dX8_byLaw_94 : decode cX8_byLaw 94 = .ok (.getfield 228, 3) := by decide +kernel
theorem dX8_byLaw_97 : decode cX8_byLaw 97 = .ok (.if_icmp .ge 63, 3) := by decide +kernel
theorem dX8_byLaw_100 : decode cX8_byLaw 100 = .ok (.aload_n 0, 1) := by decide +kernel
theorem dX8_byLaw_101 : decode cX8_byLaw 101 = .ok (.getfield 42, 3) := by decide +kernel
theorem dX8_byLaw_104 : decode cX8_byLaw 104 = .ok (.iload_n 3, 1) := by decide +kernel
theorem dX8_byLaw_105 : decode cX8_byLaw 105 = .ok (.iaload, 1) := by decide +kernel
theorem dX8_byLaw_106 : decode cX8_byLaw 106 = .ok (.aload_n 0, 1) := by decide +kernel
theorem dX8_byLaw_107 : decode cX8_byLaw 107 = .ok (.getfield 39, 3) := by decide +kernel
theorem dX8_byLaw_110 : decode cX8_byLaw 110 = .ok (.iload_n 3, 1) := by decide +kernel
theorem dX8_byLaw_111 : decode cX8_byLaw 111 = .ok (.iaload, 1) := by decide +kernel
theorem dX8_byLaw_112 : decode cX8_byLaw 112 = .ok (.if_icmp .le 25, 3) := by decide +kernel
theorem dX8_byLaw_115 : decode cX8_byLaw 115 = .ok (.aload_n 0, 1) := by decide +kernel
theorem dX8_byLaw_116 : decode cX8_byLaw 116 = .ok (.aload_n 0, 1) := by decide +kernel
theorem dX8_byLaw_117 : decode cX8_byLaw 117 = .ok (.getfield 39, 3) := by decide +kernel
theorem dX8_byLaw_120 : decode cX8_byLaw 120 = .ok (.iload_n 3, 1) := by decide +kernel
theorem dX8_byLaw_121 : decode cX8_byLaw 121 = .ok (.iaload, 1) := by decide +kernel
theorem dX8_byLaw_122 : decode cX8_byLaw 122 = .ok (.aload_n 0, 1) := by decide +kernel
theorem dX8_byLaw_123 : decode cX8_byLaw 123 = .ok (.getfield 42, 3) := by decide +kernel
theorem dX8_byLaw_126 : decode cX8_byLaw 126 = .ok (.iload_n 3, 1) := by decide +kernel
theorem dX8_byLaw_127 : decode cX8_byLaw 127 = .ok (.iaload, 1) := by decide +kernel
theorem dX8_byLaw_128 : decode cX8_byLaw 128 = .ok (.invokevirtual 245, 3) := by decide +kernel
theorem dX8_byLaw_131 : decode cX8_byLaw 131 = .ok (.ifCond .ne 6, 3) := by decide +kernel
theorem dX8_byLaw_134 : decode cX8_byLaw 134 = .ok (.goto 20, 3) := by decide +kernel
theorem dX8_byLaw_137 : decode cX8_byLaw 137 = .ok (.aload_n 0, 1) := by decide +kernel
theorem dX8_byLaw_138 : decode cX8_byLaw 138 = .ok (.aload_n 0, 1) := by decide +kernel
theorem dX8_byLaw_139 : decode cX8_byLaw 139 = .ok (.getfield 42, 3) := by decide +kernel
theorem dX8_byLaw_142 : decode cX8_byLaw 142 = .ok (.iload_n 3, 1) := by decide +kernel
theorem dX8_byLaw_143 : decode cX8_byLaw 143 = .ok (.iaload, 1) := by decide +kernel
theorem dX8_byLaw_144 : decode cX8_byLaw 144 = .ok (.aload_n 0, 1) := by decide +kernel
theorem dX8_byLaw_145 : decode cX8_byLaw 145 = .ok (.getfield 45, 3) := by decide +kernel
theorem dX8_byLaw_148 : decode cX8_byLaw 148 = .ok (.iload_n 3, 1) := by decide +kernel
theorem dX8_byLaw_149 : decode cX8_byLaw 149 = .ok (.iaload, 1) := by decide +kernel
theorem dX8_byLaw_150 : decode cX8_byLaw 150 = .ok (.invokevirtual 245, 3) := by decide +kernel
theorem dX8_byLaw_153 : decode cX8_byLaw 153 = .ok (.ireturn, 1) := by decide +kernel
theorem dX8_byLaw_154 : decode cX8_byLaw 154 = .ok (.iinc 3 1, 3) := by decide +kernel
theorem dX8_byLaw_157 : decode cX8_byLaw 157 = .ok (.goto (-65), 3) := by decide +kernel
theorem dX8_byLaw_160 : decode cX8_byLaw 160 = .ok (.iconst 0, 1) := by decide +kernel
theorem dX8_byLaw_161 : decode cX8_byLaw 161 = .ok (.ireturn, 1) := by decide +kernel
theorem dX8_countOf_0 : decode cX8_countOf 0 = .ok (.aload_n 0, 1) := by decide +kernel
theorem dX8_countOf_1 : decode cX8_countOf 1 = .ok (.getfield 224, 3) := by decide +kernel
theorem dX8_countOf_4 : decode cX8_countOf 4 = .ok (.ifCond .eq 12, 3) := by decide +kernel
theorem dX8_countOf_7 : decode cX8_countOf 7 = .ok (.aload_n 0, 1) := by decide +kernel
theorem dX8_countOf_8 : decode cX8_countOf 8 = .ok (.iload_n 1, 1) := by decide +kernel
theorem dX8_countOf_9 : decode cX8_countOf 9 = .ok (.iload_n 2, 1) := by decide +kernel
theorem dX8_countOf_10 : decode cX8_countOf 10 = .ok (.invokevirtual 248, 3) := by decide +kernel
theorem dX8_countOf_13 : decode cX8_countOf 13 = .ok (.goto 43, 3) := by decide +kernel
theorem dX8_countOf_16 : decode cX8_countOf 16 = .ok (.iconst 1, 1) := by decide +kernel
theorem dX8_countOf_17 : decode cX8_countOf 17 = .ok (.aload_n 0, 1) := by decide +kernel
theorem dX8_countOf_18 : decode cX8_countOf 18 = .ok (.getfield 27, 3) := by decide +kernel
theorem dX8_countOf_21 : decode cX8_countOf 21 = .ok (.iload_n 1, 1) := by decide +kernel
theorem dX8_countOf_22 : decode cX8_countOf 22 = .ok (.iaload, 1) := by decide +kernel
theorem dX8_countOf_23 : decode cX8_countOf 23 = .ok (.iconst 3, 1) := by decide +kernel
theorem dX8_countOf_24 : decode cX8_countOf 24 = .ok (.idiv, 1) := by decide +kernel
theorem dX8_countOf_25 : decode cX8_countOf 25 = .ok (.iadd, 1) := by decide +kernel
theorem dX8_countOf_26 : decode cX8_countOf 26 = .ok (.aload_n 0, 1) := by decide +kernel
theorem dX8_countOf_27 : decode cX8_countOf 27 = .ok (.getfield 15, 3) := by decide +kernel
theorem dX8_countOf_30 : decode cX8_countOf 30 = .ok (.aload_n 0, 1) := by decide +kernel
theorem dX8_countOf_31 : decode cX8_countOf 31 = .ok (.getfield 24, 3) := by decide +kernel
theorem dX8_countOf_34 : decode cX8_countOf 34 = .ok (.iload_n 1, 1) := by decide +kernel
theorem dX8_countOf_35 : decode cX8_countOf 35 = .ok (.iaload, 1) := by decide +kernel
theorem dX8_countOf_36 : decode cX8_countOf 36 = .ok (.iaload, 1) := by decide +kernel
theorem dX8_countOf_37 : decode cX8_countOf 37 = .ok (.iload_n 2, 1) := by decide +kernel
theorem dX8_countOf_38 : decode cX8_countOf 38 = .ok (.if_icmp .ne 7, 3) := by decide +kernel
theorem dX8_countOf_41 : decode cX8_countOf 41 = .ok (.iconst 1, 1) := by decide +kernel
theorem dX8_countOf_42 : decode cX8_countOf 42 = .ok (.goto 4, 3) := by decide +kernel
theorem dX8_countOf_45 : decode cX8_countOf 45 = .ok (.iconst 0, 1) := by decide +kernel
theorem dX8_countOf_46 : decode cX8_countOf 46 = .ok (.iadd, 1) := by decide +kernel
theorem dX8_countOf_47 : decode cX8_countOf 47 = .ok (.aload_n 0, 1) := by decide +kernel
theorem dX8_countOf_48 : decode cX8_countOf 48 = .ok (.iload_n 1, 1) := by decide +kernel
theorem dX8_countOf_49 : decode cX8_countOf 49 = .ok (.invokevirtual 239, 3) := by decide +kernel
theorem dX8_countOf_52 : decode cX8_countOf 52 = .ok (.bipush 20, 2) := by decide +kernel
theorem dX8_countOf_54 : decode cX8_countOf 54 = .ok (.idiv, 1) := by decide +kernel
theorem dX8_countOf_55 : decode cX8_countOf 55 = .ok (.isub, 1) := by decide +kernel
theorem dX8_countOf_56 : decode cX8_countOf 56 = .ok (.istore_n 3, 1) := by decide +kernel
theorem dX8_countOf_57 : decode cX8_countOf 57 = .ok (.iconst 0, 1) := by decide +kernel
theorem dX8_countOf_58 : decode cX8_countOf 58 = .ok (.bipush 9, 2) := by decide +kernel
theorem dX8_countOf_60 : decode cX8_countOf 60 = .ok (.iload_n 3, 1) := by decide +kernel
theorem dX8_countOf_61 : decode cX8_countOf 61 = .ok (.invokestatic 251, 3) := by decide +kernel
theorem dX8_countOf_64 : decode cX8_countOf 64 = .ok (.invokestatic 234, 3) := by decide +kernel
theorem dX8_countOf_67 : decode cX8_countOf 67 = .ok (.ireturn, 1) := by decide +kernel
theorem dX8_counts_0 : decode cX8_counts 0 = .ok (.aload_n 0, 1) := by decide +kernel
theorem dX8_counts_1 : decode cX8_counts 1 = .ok (.iload_n 1, 1) := by decide +kernel
theorem dX8_counts_2 : decode cX8_counts 2 = .ok (.invokevirtual 146, 3) := by decide +kernel
theorem dX8_counts_5 : decode cX8_counts 5 = .ok (.ifCond .eq 19, 3) := by decide +kernel
theorem dX8_counts_8 : decode cX8_counts 8 = .ok (.iload_n 2, 1) := by decide +kernel
theorem dX8_counts_9 : decode cX8_counts 9 = .ok (.invokestatic 120, 3) := by decide +kernel
theorem dX8_counts_12 : decode cX8_counts 12 = .ok (.ifCond .eq 12, 3) := by decide +kernel
theorem dX8_counts_15 : decode cX8_counts 15 = .ok (.aload_n 0, 1) := by decide +kernel
theorem dX8_counts_16 : decode cX8_counts 16 = .ok (.iload_n 1, 1) := by decide +kernel
theorem dX8_counts_17 : decode cX8_counts 17 = .ok (.iload_n 2, 1) := by decide +kernel
theorem dX8_counts_18 : decode cX8_counts 18 = .ok (.invokevirtual 254, 3) := by decide +kernel
theorem dX8_counts_21 : decode cX8_counts 21 = .ok (.goto 4, 3) := by decide +kernel
theorem dX8_counts_24 : decode cX8_counts 24 = .ok (.iconst (-1), 1) := by decide +kernel
theorem dX8_counts_25 : decode cX8_counts 25 = .ok (.ireturn, 1) := by decide +kernel
theorem dX8_calls_0 : decode cX8_calls 0 = .ok (.aload_n 0, 1) := by decide +kernel
theorem dX8_calls_1 : decode cX8_calls 1 = .ok (.getfield 33, 3) := by decide +kernel
theorem dX8_calls_4 : decode cX8_calls 4 = .ok (.iload_n 1, 1) := by decide +kernel
theorem dX8_calls_5 : decode cX8_calls 5 = .ok (.iaload, 1) := by decide +kernel
theorem dX8_calls_6 : decode cX8_calls 6 = .ok (.iconst 1, 1) := by decide +kernel
theorem dX8_calls_7 : decode cX8_calls 7 = .ok (.if_icmp .ne 7, 3) := by decide +kernel
theorem dX8_calls_10 : decode cX8_calls 10 = .ok (.iconst 0, 1) := by decide +kernel
theorem dX8_calls_11 : decode cX8_calls 11 = .ok (.goto 9, 3) := by decide +kernel
theorem dX8_calls_14 : decode cX8_calls 14 = .ok (.aload_n 0, 1) := by decide +kernel
theorem dX8_calls_15 : decode cX8_calls 15 = .ok (.iload_n 1, 1) := by decide +kernel
theorem dX8_calls_16 : decode cX8_calls 16 = .ok (.iload_n 2, 1) := by decide +kernel
theorem dX8_calls_17 : decode cX8_calls 17 = .ok (.invokevirtual 254, 3) := by decide +kernel
theorem dX8_calls_20 : decode cX8_calls 20 = .ok (.istore_n 3, 1) := by decide +kernel
theorem dX8_calls_21 : decode cX8_calls 21 = .ok (.iload_n 3, 1) := by decide +kernel
theorem dX8_calls_22 : decode cX8_calls 22 = .ok (.ifCond .ne 5, 3) := by decide +kernel
theorem dX8_calls_25 : decode cX8_calls 25 = .ok (.iconst 0, 1) := by decide +kernel
theorem dX8_calls_26 : decode cX8_calls 26 = .ok (.ireturn, 1) := by decide +kernel
theorem dX8_calls_27 : decode cX8_calls 27 = .ok (.aload_n 0, 1) := by decide +kernel
theorem dX8_calls_28 : decode cX8_calls 28 = .ok (.getfield 33, 3) := by decide +kernel
theorem dX8_calls_31 : decode cX8_calls 31 = .ok (.iload_n 1, 1) := by decide +kernel
theorem dX8_calls_32 : decode cX8_calls 32 = .ok (.iconst 1, 1) := by decide +kernel
theorem dX8_calls_33 : decode cX8_calls 33 = .ok (.iastore, 1) := by decide +kernel
theorem dX8_calls_34 : decode cX8_calls 34 = .ok (.aload_n 0, 1) := by decide +kernel
theorem dX8_calls_35 : decode cX8_calls 35 = .ok (.getfield 9, 3) := by decide +kernel
theorem dX8_calls_38 : decode cX8_calls 38 = .ok (.iload_n 2, 1) := by decide +kernel
theorem dX8_calls_39 : decode cX8_calls 39 = .ok (.sipush 999, 3) := by decide +kernel
theorem dX8_calls_42 : decode cX8_calls 42 = .ok (.aload_n 0, 1) := by decide +kernel
theorem dX8_calls_43 : decode cX8_calls 43 = .ok (.getfield 9, 3) := by decide +kernel
theorem dX8_calls_46 : decode cX8_calls 46 = .ok (.iload_n 2, 1) := by decide +kernel
theorem dX8_calls_47 : decode cX8_calls 47 = .ok (.iaload, 1) := by decide +kernel
theorem dX8_calls_48 : decode cX8_calls 48 = .ok (.iload_n 3, 1) := by decide +kernel
theorem dX8_calls_49 : decode cX8_calls 49 = .ok (.iadd, 1) := by decide +kernel
theorem dX8_calls_50 : decode cX8_calls 50 = .ok (.invokestatic 251, 3) := by decide +kernel
theorem dX8_calls_53 : decode cX8_calls 53 = .ok (.iastore, 1) := by decide +kernel
theorem dX8_calls_54 : decode cX8_calls 54 = .ok (.iload_n 3, 1) := by decide +kernel
theorem dX8_calls_55 : decode cX8_calls 55 = .ok (.ireturn, 1) := by decide +kernel
theorem dX8_keeps_0 : decode cX8_keeps 0 = .ok (.iconst 0, 1) := by decide +kernel
theorem dX8_keeps_1 : decode cX8_keeps 1 = .ok (.istore_n 2, 1) := by decide +kernel
theorem dX8_keeps_2 : decode cX8_keeps 2 = .ok (.iload_n 2, 1) := by decide +kernel
theorem dX8_keeps_3 : decode cX8_keeps 3 = .ok (.bipush 12, 2) := by decide +kernel
theorem dX8_keeps_5 : decode cX8_keeps 5 = .ok (.if_icmp .ge 42, 3) := by decide +kernel
theorem dX8_keeps_8 : decode cX8_keeps 8 = .ok (.aload_n 1, 1) := by decide +kernel
theorem dX8_keeps_9 : decode cX8_keeps 9 = .ok (.iload_n 2, 1) := by decide +kernel
theorem dX8_keeps_10 : decode cX8_keeps 10 = .ok (.aload_n 0, 1) := by decide +kernel
theorem dX8_keeps_11 : decode cX8_keeps 11 = .ok (.getfield 9, 3) := by decide +kernel
theorem dX8_keeps_14 : decode cX8_keeps 14 = .ok (.iload_n 2, 1) := by decide +kernel
theorem dX8_keeps_15 : decode cX8_keeps 15 = .ok (.iaload, 1) := by decide +kernel
theorem dX8_keeps_16 : decode cX8_keeps 16 = .ok (.iastore, 1) := by decide +kernel
theorem dX8_keeps_17 : decode cX8_keeps 17 = .ok (.aload_n 1, 1) := by decide +kernel
theorem dX8_keeps_18 : decode cX8_keeps 18 = .ok (.bipush 12, 2) := by decide +kernel
theorem dX8_keeps_20 : decode cX8_keeps 20 = .ok (.iload_n 2, 1) := by decide +kernel
theorem dX8_keeps_21 : decode cX8_keeps 21 = .ok (.iadd, 1) := by decide +kernel
theorem dX8_keeps_22 : decode cX8_keeps 22 = .ok (.aload_n 0, 1) := by decide +kernel
theorem dX8_keeps_23 : decode cX8_keeps 23 = .ok (.getfield 33, 3) := by decide +kernel
theorem dX8_keeps_26 : decode cX8_keeps 26 = .ok (.iload_n 2, 1) := by decide +kernel
theorem dX8_keeps_27 : decode cX8_keeps 27 = .ok (.iaload, 1) := by decide +kernel
theorem dX8_keeps_28 : decode cX8_keeps 28 = .ok (.iastore, 1) := by decide +kernel
theorem dX8_keeps_29 : decode cX8_keeps 29 = .ok (.aload_n 1, 1) := by decide +kernel
theorem dX8_keeps_30 : decode cX8_keeps 30 = .ok (.bipush 24, 2) := by decide +kernel
theorem dX8_keeps_32 : decode cX8_keeps 32 = .ok (.iload_n 2, 1) := by decide +kernel
theorem dX8_keeps_33 : decode cX8_keeps 33 = .ok (.iadd, 1) := by decide +kernel
theorem dX8_keeps_34 : decode cX8_keeps 34 = .ok (.aload_n 0, 1) := by decide +kernel
theorem dX8_keeps_35 : decode cX8_keeps 35 = .ok (.getfield 30, 3) := by decide +kernel
theorem dX8_keeps_38 : decode cX8_keeps 38 = .ok (.iload_n 2, 1) := by decide +kernel
theorem dX8_keeps_39 : decode cX8_keeps 39 = .ok (.iaload, 1) := by decide +kernel
theorem dX8_keeps_40 : decode cX8_keeps 40 = .ok (.iastore, 1) := by decide +kernel
theorem dX8_keeps_41 : decode cX8_keeps 41 = .ok (.iinc 2 1, 3) := by decide +kernel
theorem dX8_keeps_44 : decode cX8_keeps 44 = .ok (.goto (-42), 3) := by decide +kernel
theorem dX8_keeps_47 : decode cX8_keeps 47 = .ok (.aload_n 1, 1) := by decide +kernel
theorem dX8_keeps_48 : decode cX8_keeps 48 = .ok (.bipush 36, 2) := by decide +kernel
theorem dX8_keeps_50 : decode cX8_keeps 50 = .ok (.aload_n 0, 1) := by decide +kernel
theorem dX8_keeps_51 : decode cX8_keeps 51 = .ok (.getfield 127, 3) := by decide +kernel
theorem dX8_keeps_54 : decode cX8_keeps 54 = .ok (.iastore, 1) := by decide +kernel
theorem dX8_keeps_55 : decode cX8_keeps 55 = .ok (.return_, 1) := by decide +kernel
theorem dX8_laysBack_0 : decode cX8_laysBack 0 = .ok (.iconst 0, 1) := by decide +kernel
theorem dX8_laysBack_1 : decode cX8_laysBack 1 = .ok (.istore_n 2, 1) := by decide +kernel
theorem dX8_laysBack_2 : decode cX8_laysBack 2 = .ok (.iload_n 2, 1) := by decide +kernel
theorem dX8_laysBack_3 : decode cX8_laysBack 3 = .ok (.bipush 12, 2) := by decide +kernel
theorem dX8_laysBack_5 : decode cX8_laysBack 5 = .ok (.if_icmp .ge 42, 3) := by decide +kernel
theorem dX8_laysBack_8 : decode cX8_laysBack 8 = .ok (.aload_n 0, 1) := by decide +kernel
theorem dX8_laysBack_9 : decode cX8_laysBack 9 = .ok (.getfield 9, 3) := by decide +kernel
theorem dX8_laysBack_12 : decode cX8_laysBack 12 = .ok (.iload_n 2, 1) := by decide +kernel
theorem dX8_laysBack_13 : decode cX8_laysBack 13 = .ok (.aload_n 1, 1) := by decide +kernel
theorem dX8_laysBack_14 : decode cX8_laysBack 14 = .ok (.iload_n 2, 1) := by decide +kernel
theorem dX8_laysBack_15 : decode cX8_laysBack 15 = .ok (.iaload, 1) := by decide +kernel
theorem dX8_laysBack_16 : decode cX8_laysBack 16 = .ok (.iastore, 1) := by decide +kernel
theorem dX8_laysBack_17 : decode cX8_laysBack 17 = .ok (.aload_n 0, 1) := by decide +kernel
theorem dX8_laysBack_18 : decode cX8_laysBack 18 = .ok (.getfield 33, 3) := by decide +kernel
theorem dX8_laysBack_21 : decode cX8_laysBack 21 = .ok (.iload_n 2, 1) := by decide +kernel
theorem dX8_laysBack_22 : decode cX8_laysBack 22 = .ok (.aload_n 1, 1) := by decide +kernel
theorem dX8_laysBack_23 : decode cX8_laysBack 23 = .ok (.bipush 12, 2) := by decide +kernel
theorem dX8_laysBack_25 : decode cX8_laysBack 25 = .ok (.iload_n 2, 1) := by decide +kernel
theorem dX8_laysBack_26 : decode cX8_laysBack 26 = .ok (.iadd, 1) := by decide +kernel
theorem dX8_laysBack_27 : decode cX8_laysBack 27 = .ok (.iaload, 1) := by decide +kernel
theorem dX8_laysBack_28 : decode cX8_laysBack 28 = .ok (.iastore, 1) := by decide +kernel
theorem dX8_laysBack_29 : decode cX8_laysBack 29 = .ok (.aload_n 0, 1) := by decide +kernel
theorem dX8_laysBack_30 : decode cX8_laysBack 30 = .ok (.getfield 30, 3) := by decide +kernel
theorem dX8_laysBack_33 : decode cX8_laysBack 33 = .ok (.iload_n 2, 1) := by decide +kernel
theorem dX8_laysBack_34 : decode cX8_laysBack 34 = .ok (.aload_n 1, 1) := by decide +kernel
theorem dX8_laysBack_35 : decode cX8_laysBack 35 = .ok (.bipush 24, 2) := by decide +kernel
theorem dX8_laysBack_37 : decode cX8_laysBack 37 = .ok (.iload_n 2, 1) := by decide +kernel
theorem dX8_laysBack_38 : decode cX8_laysBack 38 = .ok (.iadd, 1) := by decide +kernel
theorem dX8_laysBack_39 : decode cX8_laysBack 39 = .ok (.iaload, 1) := by decide +kernel
theorem dX8_laysBack_40 : decode cX8_laysBack 40 = .ok (.iastore, 1) := by decide +kernel
theorem dX8_laysBack_41 : decode cX8_laysBack 41 = .ok (.iinc 2 1, 3) := by decide +kernel
theorem dX8_laysBack_44 : decode cX8_laysBack 44 = .ok (.goto (-42), 3) := by decide +kernel
theorem dX8_laysBack_47 : decode cX8_laysBack 47 = .ok (.aload_n 0, 1) := by decide +kernel
theorem dX8_laysBack_48 : decode cX8_laysBack 48 = .ok (.aload_n 1, 1) := by decide +kernel
theorem dX8_laysBack_49 : decode cX8_laysBack 49 = .ok (.bipush 36, 2) := by decide +kernel
theorem dX8_laysBack_51 : decode cX8_laysBack 51 = .ok (.iaload, 1) := by decide +kernel
theorem dX8_laysBack_52 : decode cX8_laysBack 52 = .ok (.putfield 127, 3) := by decide +kernel
theorem dX8_laysBack_55 : decode cX8_laysBack 55 = .ok (.return_, 1) := by decide +kernel
theorem dX8_noCalls_0 : decode cX8_noCalls 0 = .ok (.aload_n 0, 1) := by decide +kernel
theorem dX8_noCalls_1 : decode cX8_noCalls 1 = .ok (.getfield 87, 3) := by decide +kernel
theorem dX8_noCalls_4 : decode cX8_noCalls 4 = .ok (.iload_n 1, 1) := by decide +kernel
theorem dX8_noCalls_5 : decode cX8_noCalls 5 = .ok (.iaload, 1) := by decide +kernel
theorem dX8_noCalls_6 : decode cX8_noCalls 6 = .ok (.iconst (-1), 1) := by decide +kernel
theorem dX8_noCalls_7 : decode cX8_noCalls 7 = .ok (.if_icmp .ne 8, 3) := by decide +kernel
theorem dX8_noCalls_10 : decode cX8_noCalls 10 = .ok (.bipush (-11), 2) := by decide +kernel
theorem dX8_noCalls_12 : decode cX8_noCalls 12 = .ok (.goto 19, 3) := by decide +kernel
theorem dX8_noCalls_15 : decode cX8_noCalls 15 = .ok (.aload_n 0, 1) := by decide +kernel
theorem dX8_noCalls_16 : decode cX8_noCalls 16 = .ok (.getfield 87, 3) := by decide +kernel
theorem dX8_noCalls_19 : decode cX8_noCalls 19 = .ok (.iload_n 1, 1) := by decide +kernel
theorem dX8_noCalls_20 : decode cX8_noCalls 20 = .ok (.iaload, 1) := by decide +kernel
theorem dX8_noCalls_21 : decode cX8_noCalls 21 = .ok (.iconst 1, 1) := by decide +kernel
theorem dX8_noCalls_22 : decode cX8_noCalls 22 = .ok (.if_icmp .eq 8, 3) := by decide +kernel
theorem dX8_noCalls_25 : decode cX8_noCalls 25 = .ok (.bipush (-12), 2) := by decide +kernel
theorem dX8_noCalls_27 : decode cX8_noCalls 27 = .ok (.goto 4, 3) := by decide +kernel
theorem dX8_noCalls_30 : decode cX8_noCalls 30 = .ok (.iconst 0, 1) := by decide +kernel
theorem dX8_noCalls_31 : decode cX8_noCalls 31 = .ok (.ireturn, 1) := by decide +kernel
theorem dX8_callsOf_0 : decode cX8_callsOf 0 = .ok (.iconst 0, 1) := by decide +kernel
theorem dX8_callsOf_1 : decode cX8_callsOf 1 = .ok (.istore_n 2, 1) := by decide +kernel
theorem dX8_callsOf_2 : decode cX8_callsOf 2 = .ok (.iload_n 2, 1) := by decide +kernel
theorem dX8_callsOf_3 : decode cX8_callsOf 3 = .ok (.aload_n 0, 1) := by decide +kernel
theorem dX8_callsOf_4 : decode cX8_callsOf 4 = .ok (.getfield 90, 3) := by decide +kernel
theorem dX8_callsOf_7 : decode cX8_callsOf 7 = .ok (.iload_n 1, 1) := by decide +kernel
theorem dX8_callsOf_8 : decode cX8_callsOf 8 = .ok (.iaload, 1) := by decide +kernel
theorem dX8_callsOf_9 : decode cX8_callsOf 9 = .ok (.if_icmp .ge 40, 3) := by decide +kernel
theorem dX8_callsOf_12 : decode cX8_callsOf 12 = .ok (.iload_n 2, 1) := by decide +kernel
theorem dX8_callsOf_13 : decode cX8_callsOf 13 = .ok (.bipush 40, 2) := by decide +kernel
theorem dX8_callsOf_15 : decode cX8_callsOf 15 = .ok (.if_icmp .ge 34, 3) := by decide +kernel
theorem dX8_callsOf_18 : decode cX8_callsOf 18 = .ok (.aload_n 0, 1) := by decide +kernel
theorem dX8_callsOf_19 : decode cX8_callsOf 19 = .ok (.iload_n 1, 1) := by decide +kernel
theorem dX8_callsOf_20 : decode cX8_callsOf 20 = .ok (.iload_n 2, 1) := by decide +kernel
theorem dX8_callsOf_21 : decode cX8_callsOf 21 = .ok (.invokevirtual 142, 3) := by decide +kernel
theorem dX8_callsOf_24 : decode cX8_callsOf 24 = .ok (.ifCond .lt 25, 3) := by decide +kernel
theorem dX8_callsOf_27 : decode cX8_callsOf 27 = .ok (.aload_n 0, 1) := by decide +kernel
theorem dX8_callsOf_28 : decode cX8_callsOf 28 = .ok (.iload_n 1, 1) := by decide +kernel
theorem dX8_callsOf_29 : decode cX8_callsOf 29 = .ok (.iload_n 2, 1) := by decide +kernel
theorem dX8_callsOf_30 : decode cX8_callsOf 30 = .ok (.invokevirtual 142, 3) := by decide +kernel
theorem dX8_callsOf_33 : decode cX8_callsOf 33 = .ok (.bipush 12, 2) := by decide +kernel
theorem dX8_callsOf_35 : decode cX8_callsOf 35 = .ok (.idiv, 1) := by decide +kernel
theorem dX8_callsOf_36 : decode cX8_callsOf 36 = .ok (.aload_n 0, 1) := by decide +kernel
theorem dX8_callsOf_37 : decode cX8_callsOf 37 = .ok (.getfield 117, 3) := by decide +kernel
theorem dX8_callsOf_40 : decode cX8_callsOf 40 = .ok (.if_icmp .ge 9, 3) := by decide +kernel
theorem dX8_callsOf_43 : decode cX8_callsOf 43 = .ok (.iinc 2 1, 3) := by decide +kernel
theorem dX8_callsOf_46 : decode cX8_callsOf 46 = .ok (.goto (-44), 3) := by decide +kernel
theorem dX8_callsOf_49 : decode cX8_callsOf 49 = .ok (.iload_n 2, 1) := by decide +kernel
theorem dX8_callsOf_50 : decode cX8_callsOf 50 = .ok (.ireturn, 1) := by decide +kernel
theorem dX8_goes_0 : decode cX8_goes 0 = .ok (.bipush (-2), 2) := by decide +kernel
theorem dX8_goes_2 : decode cX8_goes 2 = .ok (.istore_n 3, 1) := by decide +kernel
theorem dX8_goes_3 : decode cX8_goes 3 = .ok (.iload_n 2, 1) := by decide +kernel
theorem dX8_goes_4 : decode cX8_goes 4 = .ok (.aload_n 0, 1) := by decide +kernel
theorem dX8_goes_5 : decode cX8_goes 5 = .ok (.iload_n 1, 1) := by decide +kernel
theorem dX8_goes_6 : decode cX8_goes 6 = .ok (.invokevirtual 257, 3) := by decide +kernel
theorem dX8_goes_9 : decode cX8_goes 9 = .ok (.invokestatic 251, 3) := by decide +kernel
theorem dX8_goes_12 : decode cX8_goes 12 = .ok (.istore 4, 2) := by decide +kernel
theorem dX8_goes_14 : decode cX8_goes 14 = .ok (.iconst 0, 1) := by decide +kernel
theorem dX8_goes_15 : decode cX8_goes 15 = .ok (.istore 5, 2) := by decide +kernel
theorem dX8_goes_17 : decode cX8_goes 17 = .ok (.iload 5, 2) := by decide +kernel
theorem dX8_goes_19 : decode cX8_goes 19 = .ok (.iload 4, 2) := by decide +kernel
theorem dX8_goes_21 : decode cX8_goes 21 = .ok (.if_icmp .ge 45, 3) := by decide +kernel
theorem dX8_goes_24 : decode cX8_goes 24 = .ok (.aload_n 0, 1) := by decide +kernel
theorem dX8_goes_25 : decode cX8_goes 25 = .ok (.aload_n 0, 1) := by decide +kernel
theorem dX8_goes_26 : decode cX8_goes 26 = .ok (.iload_n 1, 1) := by decide +kernel
theorem dX8_goes_27 : decode cX8_goes 27 = .ok (.iload 5, 2) := by decide +kernel
theorem dX8_goes_29 : decode cX8_goes 29 = .ok (.invokevirtual 142, 3) := by decide +kernel
theorem dX8_goes_32 : decode cX8_goes 32 = .ok (.bipush 12, 2) := by decide +kernel
theorem dX8_goes_34 : decode cX8_goes 34 = .ok (.idiv, 1) := by decide +kernel
theorem dX8_goes_35 : decode cX8_goes 35 = .ok (.aload_n 0, 1) := by decide +kernel
theorem dX8_goes_36 : decode cX8_goes 36 = .ok (.iload_n 1, 1) := by decide +kernel
theorem dX8_goes_37 : decode cX8_goes 37 = .ok (.iload 5, 2) := by decide +kernel
theorem dX8_goes_39 : decode cX8_goes 39 = .ok (.invokevirtual 142, 3) := by decide +kernel
theorem dX8_goes_42 : decode cX8_goes 42 = .ok (.bipush 12, 2) := by decide +kernel
theorem dX8_goes_44 : decode cX8_goes 44 = .ok (.irem, 1) := by decide +kernel
theorem dX8_goes_45 : decode cX8_goes 45 = .ok (.invokevirtual 260, 3) := by decide +kernel
theorem dX8_goes_48 : decode cX8_goes 48 = .ok (.ifCond .ne 12, 3) := by decide +kernel
theorem dX8_goes_51 : decode cX8_goes 51 = .ok (.iload_n 3, 1) := by decide +kernel
theorem dX8_goes_52 : decode cX8_goes 52 = .ok (.bipush (-2), 2) := by decide +kernel
theorem dX8_goes_54 : decode cX8_goes 54 = .ok (.if_icmp .ne 6, 3) := by decide +kernel
theorem dX8_goes_57 : decode cX8_goes 57 = .ok (.iload 5, 2) := by decide +kernel
theorem dX8_goes_59 : decode cX8_goes 59 = .ok (.istore_n 3, 1) := by decide +kernel
theorem dX8_goes_60 : decode cX8_goes 60 = .ok (.iinc 5 1, 3) := by decide +kernel
theorem dX8_goes_63 : decode cX8_goes 63 = .ok (.goto (-46), 3) := by decide +kernel
theorem dX8_goes_66 : decode cX8_goes 66 = .ok (.iload_n 3, 1) := by decide +kernel
theorem dX8_goes_67 : decode cX8_goes 67 = .ok (.ireturn, 1) := by decide +kernel
theorem dX8_later_0 : decode cX8_later 0 = .ok (.iload_n 1, 1) := by decide +kernel
theorem dX8_later_1 : decode cX8_later 1 = .ok (.invokestatic 137, 3) := by decide +kernel
theorem dX8_later_4 : decode cX8_later 4 = .ok (.ifCond .eq 20, 3) := by decide +kernel
theorem dX8_later_7 : decode cX8_later 7 = .ok (.iload_n 2, 1) := by decide +kernel
theorem dX8_later_8 : decode cX8_later 8 = .ok (.iconst 0, 1) := by decide +kernel
theorem dX8_later_9 : decode cX8_later 9 = .ok (.bipush 40, 2) := by decide +kernel
theorem dX8_later_11 : decode cX8_later 11 = .ok (.invokestatic 109, 3) := by decide +kernel
theorem dX8_later_14 : decode cX8_later 14 = .ok (.ifCond .eq 10, 3) := by decide +kernel
theorem dX8_later_17 : decode cX8_later 17 = .ok (.iload_n 3, 1) := by decide +kernel
theorem dX8_later_18 : decode cX8_later 18 = .ok (.invokestatic 120, 3) := by decide +kernel
theorem dX8_later_21 : decode cX8_later 21 = .ok (.ifCond .ne 5, 3) := by decide +kernel
theorem dX8_later_24 : decode cX8_later 24 = .ok (.iconst (-1), 1) := by decide +kernel
theorem dX8_later_25 : decode cX8_later 25 = .ok (.ireturn, 1) := by decide +kernel
theorem dX8_later_26 : decode cX8_later 26 = .ok (.aload_n 0, 1) := by decide +kernel
theorem dX8_later_27 : decode cX8_later 27 = .ok (.iload_n 1, 1) := by decide +kernel
theorem dX8_later_28 : decode cX8_later 28 = .ok (.invokevirtual 263, 3) := by decide +kernel
theorem dX8_later_31 : decode cX8_later 31 = .ok (.istore 4, 2) := by decide +kernel
theorem dX8_later_33 : decode cX8_later 33 = .ok (.iload 4, 2) := by decide +kernel
theorem dX8_later_35 : decode cX8_later 35 = .ok (.ifCond .ge 6, 3) := by decide +kernel
theorem dX8_later_38 : decode cX8_later 38 = .ok (.iload 4, 2) := by decide +kernel
theorem dX8_later_40 : decode cX8_later 40 = .ok (.ireturn, 1) := by decide +kernel
theorem dX8_later_41 : decode cX8_later 41 = .ok (.aload_n 0, 1) := by decide +kernel
theorem dX8_later_42 : decode cX8_later 42 = .ok (.aload_n 0, 1) := by decide +kernel
theorem dX8_later_43 : decode cX8_later 43 = .ok (.getfield 97, 3) := by decide +kernel
theorem dX8_later_46 : decode cX8_later 46 = .ok (.invokevirtual 266, 3) := by decide +kernel
theorem dX8_later_49 : decode cX8_later 49 = .ok (.aload_n 0, 1) := by decide +kernel
theorem dX8_later_50 : decode cX8_later 50 = .ok (.iload_n 1, 1) := by decide +kernel
theorem dX8_later_51 : decode cX8_later 51 = .ok (.iload_n 2, 1) := by decide +kernel
theorem dX8_later_52 : decode cX8_later 52 = .ok (.invokevirtual 270, 3) := by decide +kernel
theorem dX8_later_55 : decode cX8_later 55 = .ok (.pop, 1) := by decide +kernel
theorem dX8_later_56 : decode cX8_later 56 = .ok (.aload_n 0, 1) := by decide +kernel
theorem dX8_later_57 : decode cX8_later 57 = .ok (.getfield 9, 3) := by decide +kernel
theorem dX8_later_60 : decode cX8_later 60 = .ok (.iload_n 3, 1) := by decide +kernel
theorem dX8_later_61 : decode cX8_later 61 = .ok (.iaload, 1) := by decide +kernel
theorem dX8_later_62 : decode cX8_later 62 = .ok (.istore 5, 2) := by decide +kernel
theorem dX8_later_64 : decode cX8_later 64 = .ok (.aload_n 0, 1) := by decide +kernel
theorem dX8_later_65 : decode cX8_later 65 = .ok (.aload_n 0, 1) := by decide +kernel
theorem dX8_later_66 : decode cX8_later 66 = .ok (.getfield 97, 3) := by decide +kernel
theorem dX8_later_69 : decode cX8_later 69 = .ok (.invokevirtual 273, 3) := by decide +kernel
theorem dX8_later_72 : decode cX8_later 72 = .ok (.iload 5, 2) := by decide +kernel
theorem dX8_later_74 : decode cX8_later 74 = .ok (.ireturn, 1) := by decide +kernel
theorem dX8_allForgiven_0 : decode cX8_allForgiven 0 = .ok (.iconst 0, 1) := by decide +kernel
theorem dX8_allForgiven_1 : decode cX8_allForgiven 1 = .ok (.istore_n 1, 1) := by decide +kernel
theorem dX8_allForgiven_2 : decode cX8_allForgiven 2 = .ok (.iconst 0, 1) := by decide +kernel
theorem dX8_allForgiven_3 : decode cX8_allForgiven 3 = .ok (.istore_n 2, 1) := by decide +kernel
theorem dX8_allForgiven_4 : decode cX8_allForgiven 4 = .ok (.iload_n 2, 1) := by decide +kernel
theorem dX8_allForgiven_5 : decode cX8_allForgiven 5 = .ok (.aload_n 0, 1) := by decide +kernel
theorem dX8_allForgiven_6 : decode cX8_allForgiven 6 = .ok (.getfield 117, 3) := by decide +kernel
theorem dX8_allForgiven_9 : decode cX8_allForgiven 9 = .ok (.if_icmp .ge 25, 3) := by decide +kernel
theorem dX8_allForgiven_12 : decode cX8_allForgiven 12 = .ok (.aload_n 0, 1) := by decide +kernel
theorem dX8_allForgiven_13 : decode cX8_allForgiven 13 = .ok (.getfield 33, 3) := by decide +kernel
theorem dX8_allForgiven_16 : decode cX8_allForgiven 16 = .ok (.iload_n 2, 1) := by decide +kernel
theorem dX8_allForgiven_17 : decode cX8_allForgiven 17 = .ok (.iaload, 1) := by decide +kernel
theorem dX8_allForgiven_18 : decode cX8_allForgiven 18 = .ok (.iconst 1, 1) := by decide +kernel
theorem dX8_allForgiven_19 : decode cX8_allForgiven 19 = .ok (.if_icmp .ne 9, 3) := by decide +kernel
theorem dX8_allForgiven_22 : decode cX8_allForgiven 22 = .ok (.iload_n 1, 1) := by decide +kernel
theorem dX8_allForgiven_23 : decode cX8_allForgiven 23 = .ok (.iconst 1, 1) := by decide +kernel
theorem dX8_allForgiven_24 : decode cX8_allForgiven 24 = .ok (.iload_n 2, 1) := by decide +kernel
theorem dX8_allForgiven_25 : decode cX8_allForgiven 25 = .ok (.ishl, 1) := by decide +kernel
theorem dX8_allForgiven_26 : decode cX8_allForgiven 26 = .ok (.ior, 1) := by decide +kernel
theorem dX8_allForgiven_27 : decode cX8_allForgiven 27 = .ok (.istore_n 1, 1) := by decide +kernel
theorem dX8_allForgiven_28 : decode cX8_allForgiven 28 = .ok (.iinc 2 1, 3) := by decide +kernel
theorem dX8_allForgiven_31 : decode cX8_allForgiven 31 = .ok (.goto (-27), 3) := by decide +kernel
theorem dX8_allForgiven_34 : decode cX8_allForgiven 34 = .ok (.iload_n 1, 1) := by decide +kernel
theorem dX8_allForgiven_35 : decode cX8_allForgiven 35 = .ok (.ireturn, 1) := by decide +kernel
theorem dX8_allNumbers_0 : decode cX8_allNumbers 0 = .ok (.iconst 0, 1) := by decide +kernel
theorem dX8_allNumbers_1 : decode cX8_allNumbers 1 = .ok (.istore_n 1, 1) := by decide +kernel
theorem dX8_allNumbers_2 : decode cX8_allNumbers 2 = .ok (.iconst 0, 1) := by decide +kernel
theorem dX8_allNumbers_3 : decode cX8_allNumbers 3 = .ok (.istore_n 2, 1) := by decide +kernel
theorem dX8_allNumbers_4 : decode cX8_allNumbers 4 = .ok (.iload_n 2, 1) := by decide +kernel
theorem dX8_allNumbers_5 : decode cX8_allNumbers 5 = .ok (.bipush 12, 2) := by decide +kernel
theorem dX8_allNumbers_7 : decode cX8_allNumbers 7 = .ok (.if_icmp .ge 18, 3) := by decide +kernel
theorem dX8_allNumbers_10 : decode cX8_allNumbers 10 = .ok (.iload_n 1, 1) := by decide +kernel
theorem dX8_allNumbers_11 : decode cX8_allNumbers 11 = .ok (.aload_n 0, 1) := by decide +kernel
theorem dX8_allNumbers_12 : decode cX8_allNumbers 12 = .ok (.getfield 9, 3) := by decide +kernel
theorem dX8_allNumbers_15 : decode cX8_allNumbers 15 = .ok (.iload_n 2, 1) := by decide +kernel
theorem dX8_allNumbers_16 : decode cX8_allNumbers 16 = .ok (.iaload, 1) := by decide +kernel
theorem dX8_allNumbers_17 : decode cX8_allNumbers 17 = .ok (.iadd, 1) := by decide +kernel
theorem dX8_allNumbers_18 : decode cX8_allNumbers 18 = .ok (.istore_n 1, 1) := by decide +kernel
theorem dX8_allNumbers_19 : decode cX8_allNumbers 19 = .ok (.iinc 2 1, 3) := by decide +kernel
theorem dX8_allNumbers_22 : decode cX8_allNumbers 22 = .ok (.goto (-18), 3) := by decide +kernel
theorem dX8_allNumbers_25 : decode cX8_allNumbers 25 = .ok (.iload_n 1, 1) := by decide +kernel
theorem dX8_allNumbers_26 : decode cX8_allNumbers 26 = .ok (.ireturn, 1) := by decide +kernel
theorem dX8_alike_0 : decode cX8_alike 0 = .ok (.iconst 0, 1) := by decide +kernel
theorem dX8_alike_1 : decode cX8_alike 1 = .ok (.istore_n 1, 1) := by decide +kernel
theorem dX8_alike_2 : decode cX8_alike 2 = .ok (.iload_n 1, 1) := by decide +kernel
theorem dX8_alike_3 : decode cX8_alike 3 = .ok (.bipush 12, 2) := by decide +kernel
theorem dX8_alike_5 : decode cX8_alike 5 = .ok (.if_icmp .ge 56, 3) := by decide +kernel
theorem dX8_alike_8 : decode cX8_alike 8 = .ok (.iload_n 1, 1) := by decide +kernel
theorem dX8_alike_9 : decode cX8_alike 9 = .ok (.iconst 1, 1) := by decide +kernel
theorem dX8_alike_10 : decode cX8_alike 10 = .ok (.iadd, 1) := by decide +kernel
theorem dX8_alike_11 : decode cX8_alike 11 = .ok (.istore_n 2, 1) := by decide +kernel
theorem dX8_alike_12 : decode cX8_alike 12 = .ok (.iload_n 2, 1) := by decide +kernel
theorem dX8_alike_13 : decode cX8_alike 13 = .ok (.bipush 12, 2) := by decide +kernel
theorem dX8_alike_15 : decode cX8_alike 15 = .ok (.if_icmp .ge 40, 3) := by decide +kernel
theorem dX8_alike_18 : decode cX8_alike 18 = .ok (.aload_n 0, 1) := by decide +kernel
theorem dX8_alike_19 : decode cX8_alike 19 = .ok (.getfield 9, 3) := by decide +kernel
theorem dX8_alike_22 : decode cX8_alike 22 = .ok (.iload_n 1, 1) := by decide +kernel
theorem dX8_alike_23 : decode cX8_alike 23 = .ok (.iaload, 1) := by decide +kernel
theorem dX8_alike_24 : decode cX8_alike 24 = .ok (.ifCond .le 25, 3) := by decide +kernel
theorem dX8_alike_27 : decode cX8_alike 27 = .ok (.aload_n 0, 1) := by decide +kernel
theorem dX8_alike_28 : decode cX8_alike 28 = .ok (.getfield 9, 3) := by decide +kernel
theorem dX8_alike_31 : decode cX8_alike 31 = .ok (.iload_n 1, 1) := by decide +kernel
theorem dX8_alike_32 : decode cX8_alike 32 = .ok (.iaload, 1) := by decide +kernel
theorem dX8_alike_33 : decode cX8_alike 33 = .ok (.aload_n 0, 1) := by decide +kernel
theorem dX8_alike_34 : decode cX8_alike 34 = .ok (.getfield 9, 3) := by decide +kernel
theorem dX8_alike_37 : decode cX8_alike 37 = .ok (.iload_n 2, 1) := by decide +kernel
theorem dX8_alike_38 : decode cX8_alike 38 = .ok (.iaload, 1) := by decide +kernel
theorem dX8_alike_39 : decode cX8_alike 39 = .ok (.if_icmp .ne 10, 3) := by decide +kernel
theorem dX8_alike_42 : decode cX8_alike 42 = .ok (.bipush 12, 2) := by decide +kernel
theorem dX8_alike_44 : decode cX8_alike 44 = .ok (.iload_n 1, 1) := by decide +kernel
theorem dX8_alike_45 : decode cX8_alike 45 = .ok (.imul, 1) := by decide +kernel
theorem dX8_alike_46 : decode cX8_alike 46 = .ok (.iload_n 2, 1) := by decide +kernel
theorem dX8_alike_47 : decode cX8_alike 47 = .ok (.iadd, 1) := by decide +kernel
theorem dX8_alike_48 : decode cX8_alike 48 = .ok (.ireturn, 1) := by decide +kernel
theorem dX8_alike_49 : decode cX8_alike 49 = .ok (.iinc 2 1, 3) := by decide +kernel
theorem dX8_alike_52 : decode cX8_alike 52 = .ok (.goto (-40), 3) := by decide +kernel
theorem dX8_alike_55 : decode cX8_alike 55 = .ok (.iinc 1 1, 3) := by decide +kernel
theorem dX8_alike_58 : decode cX8_alike 58 = .ok (.goto (-56), 3) := by decide +kernel
theorem dX8_alike_61 : decode cX8_alike 61 = .ok (.bipush (-2), 2) := by decide +kernel
theorem dX8_alike_63 : decode cX8_alike 63 = .ok (.ireturn, 1) := by decide +kernel
theorem dX8_street_0 : decode cX8_street 0 = .ok (.iload_n 1, 1) := by decide +kernel
theorem dX8_street_1 : decode cX8_street 1 = .ok (.invokestatic 137, 3) := by decide +kernel
theorem dX8_street_4 : decode cX8_street 4 = .ok (.ifCond .eq 22, 3) := by decide +kernel
theorem dX8_street_7 : decode cX8_street 7 = .ok (.iload_n 2, 1) := by decide +kernel
theorem dX8_street_8 : decode cX8_street 8 = .ok (.iconst 0, 1) := by decide +kernel
theorem dX8_street_9 : decode cX8_street 9 = .ok (.bipush 40, 2) := by decide +kernel
theorem dX8_street_11 : decode cX8_street 11 = .ok (.invokestatic 109, 3) := by decide +kernel
theorem dX8_street_14 : decode cX8_street 14 = .ok (.ifCond .eq 12, 3) := by decide +kernel
theorem dX8_street_17 : decode cX8_street 17 = .ok (.iload_n 3, 1) := by decide +kernel
theorem dX8_street_18 : decode cX8_street 18 = .ok (.iconst 0, 1) := by decide +kernel
theorem dX8_street_19 : decode cX8_street 19 = .ok (.iconst 3, 1) := by decide +kernel
theorem dX8_street_20 : decode cX8_street 20 = .ok (.invokestatic 109, 3) := by decide +kernel
theorem dX8_street_23 : decode cX8_street 23 = .ok (.ifCond .ne 5, 3) := by decide +kernel
theorem dX8_street_26 : decode cX8_street 26 = .ok (.iconst (-1), 1) := by decide +kernel
theorem dX8_street_27 : decode cX8_street 27 = .ok (.ireturn, 1) := by decide +kernel
theorem dX8_street_28 : decode cX8_street 28 = .ok (.aload_n 0, 1) := by decide +kernel
theorem dX8_street_29 : decode cX8_street 29 = .ok (.iload_n 1, 1) := by decide +kernel
theorem dX8_street_30 : decode cX8_street 30 = .ok (.invokevirtual 263, 3) := by decide +kernel
theorem dX8_street_33 : decode cX8_street 33 = .ok (.istore 4, 2) := by decide +kernel
theorem dX8_street_35 : decode cX8_street 35 = .ok (.iload 4, 2) := by decide +kernel
theorem dX8_street_37 : decode cX8_street 37 = .ok (.ifCond .ge 6, 3) := by decide +kernel
theorem dX8_street_40 : decode cX8_street 40 = .ok (.iload 4, 2) := by decide +kernel
theorem dX8_street_42 : decode cX8_street 42 = .ok (.ireturn, 1) := by decide +kernel
theorem dX8_street_43 : decode cX8_street 43 = .ok (.aload_n 0, 1) := by decide +kernel
theorem dX8_street_44 : decode cX8_street 44 = .ok (.aload_n 0, 1) := by decide +kernel
theorem dX8_street_45 : decode cX8_street 45 = .ok (.getfield 97, 3) := by decide +kernel
theorem dX8_street_48 : decode cX8_street 48 = .ok (.invokevirtual 266, 3) := by decide +kernel
theorem dX8_street_51 : decode cX8_street 51 = .ok (.aload_n 0, 1) := by decide +kernel
theorem dX8_street_52 : decode cX8_street 52 = .ok (.iload_n 1, 1) := by decide +kernel
theorem dX8_street_53 : decode cX8_street 53 = .ok (.iload_n 2, 1) := by decide +kernel
theorem dX8_street_54 : decode cX8_street 54 = .ok (.invokevirtual 270, 3) := by decide +kernel
theorem dX8_street_57 : decode cX8_street 57 = .ok (.istore 5, 2) := by decide +kernel
theorem dX8_street_59 : decode cX8_street 59 = .ok (.iload_n 3, 1) := by decide +kernel
theorem dX8_street_60 : decode cX8_street 60 = .ok (.ifCond .ne 10, 3) := by decide +kernel
theorem dX8_street_63 : decode cX8_street 63 = .ok (.aload_n 0, 1) := by decide +kernel
theorem dX8_street_64 : decode cX8_street 64 = .ok (.invokevirtual 276, 3) := by decide +kernel
theorem dX8_street_67 : decode cX8_street 67 = .ok (.goto 29, 3) := by decide +kernel
theorem dX8_street_70 : decode cX8_street 70 = .ok (.iload_n 3, 1) := by decide +kernel
theorem dX8_street_71 : decode cX8_street 71 = .ok (.iconst 1, 1) := by decide +kernel
theorem dX8_street_72 : decode cX8_street 72 = .ok (.if_icmp .ne 10, 3) := by decide +kernel
theorem dX8_street_75 : decode cX8_street 75 = .ok (.aload_n 0, 1) := by decide +kernel
theorem dX8_street_76 : decode cX8_street 76 = .ok (.invokevirtual 279, 3) := by decide +kernel
theorem dX8_street_79 : decode cX8_street 79 = .ok (.goto 17, 3) := by decide +kernel
theorem dX8_street_82 : decode cX8_street 82 = .ok (.iload_n 3, 1) := by decide +kernel
theorem dX8_street_83 : decode cX8_street 83 = .ok (.iconst 2, 1) := by decide +kernel
theorem dX8_street_84 : decode cX8_street 84 = .ok (.if_icmp .ne 8, 3) := by decide +kernel
theorem dX8_street_87 : decode cX8_street 87 = .ok (.iload 5, 2) := by decide +kernel
theorem dX8_street_89 : decode cX8_street 89 = .ok (.goto 7, 3) := by decide +kernel
theorem dX8_street_92 : decode cX8_street 92 = .ok (.aload_n 0, 1) := by decide +kernel
theorem dX8_street_93 : decode cX8_street 93 = .ok (.invokevirtual 282, 3) := by decide +kernel
theorem dX8_street_96 : decode cX8_street 96 = .ok (.istore 6, 2) := by decide +kernel
theorem dX8_street_98 : decode cX8_street 98 = .ok (.aload_n 0, 1) := by decide +kernel
theorem dX8_street_99 : decode cX8_street 99 = .ok (.aload_n 0, 1) := by decide +kernel
theorem dX8_street_100 : decode cX8_street 100 = .ok (.getfield 97, 3) := by decide +kernel
theorem dX8_street_103 : decode cX8_street 103 = .ok (.invokevirtual 273, 3) := by decide +kernel
theorem dX8_street_106 : decode cX8_street 106 = .ok (.iload 6, 2) := by decide +kernel
theorem dX8_street_108 : decode cX8_street 108 = .ok (.ireturn, 1) := by decide +kernel
theorem dX8_rises_0 : decode cX8_rises 0 = .ok (.iconst (-1), 1) := by decide +kernel
theorem dX8_rises_1 : decode cX8_rises 1 = .ok (.istore_n 2, 1) := by decide +kernel
theorem dX8_rises_2 : decode cX8_rises 2 = .ok (.iconst 0, 1) := by decide +kernel
theorem dX8_rises_3 : decode cX8_rises 3 = .ok (.istore_n 3, 1) := by decide +kernel
theorem dX8_rises_4 : decode cX8_rises 4 = .ok (.iload_n 3, 1) := by decide +kernel
theorem dX8_rises_5 : decode cX8_rises 5 = .ok (.bipush 12, 2) := by decide +kernel
theorem dX8_rises_7 : decode cX8_rises 7 = .ok (.if_icmp .ge 39, 3) := by decide +kernel
theorem dX8_rises_10 : decode cX8_rises 10 = .ok (.iload_n 1, 1) := by decide +kernel
theorem dX8_rises_11 : decode cX8_rises 11 = .ok (.iload_n 3, 1) := by decide +kernel
theorem dX8_rises_12 : decode cX8_rises 12 = .ok (.ishr, 1) := by decide +kernel
theorem dX8_rises_13 : decode cX8_rises 13 = .ok (.iconst 1, 1) := by decide +kernel
theorem dX8_rises_14 : decode cX8_rises 14 = .ok (.iand, 1) := by decide +kernel
theorem dX8_rises_15 : decode cX8_rises 15 = .ok (.ifCond .ne 6, 3) := by decide +kernel
theorem dX8_rises_18 : decode cX8_rises 18 = .ok (.goto 22, 3) := by decide +kernel
theorem dX8_rises_21 : decode cX8_rises 21 = .ok (.aload_n 0, 1) := by decide +kernel
theorem dX8_rises_22 : decode cX8_rises 22 = .ok (.getfield 9, 3) := by decide +kernel
theorem dX8_rises_25 : decode cX8_rises 25 = .ok (.iload_n 3, 1) := by decide +kernel
theorem dX8_rises_26 : decode cX8_rises 26 = .ok (.iaload, 1) := by decide +kernel
theorem dX8_rises_27 : decode cX8_rises 27 = .ok (.iload_n 2, 1) := by decide +kernel
theorem dX8_rises_28 : decode cX8_rises 28 = .ok (.if_icmp .gt 5, 3) := by decide +kernel
theorem dX8_rises_31 : decode cX8_rises 31 = .ok (.iconst 0, 1) := by decide +kernel
theorem dX8_rises_32 : decode cX8_rises 32 = .ok (.ireturn, 1) := by decide +kernel
theorem dX8_rises_33 : decode cX8_rises 33 = .ok (.aload_n 0, 1) := by decide +kernel
theorem dX8_rises_34 : decode cX8_rises 34 = .ok (.getfield 9, 3) := by decide +kernel
theorem dX8_rises_37 : decode cX8_rises 37 = .ok (.iload_n 3, 1) := by decide +kernel
theorem dX8_rises_38 : decode cX8_rises 38 = .ok (.iaload, 1) := by decide +kernel
theorem dX8_rises_39 : decode cX8_rises 39 = .ok (.istore_n 2, 1) := by decide +kernel
theorem dX8_rises_40 : decode cX8_rises 40 = .ok (.iinc 3 1, 3) := by decide +kernel
theorem dX8_rises_43 : decode cX8_rises 43 = .ok (.goto (-39), 3) := by decide +kernel
theorem dX8_rises_46 : decode cX8_rises 46 = .ok (.iconst 1, 1) := by decide +kernel
theorem dX8_rises_47 : decode cX8_rises 47 = .ok (.ireturn, 1) := by decide +kernel
theorem dX8_run_0 : decode cX8_run 0 = .ok (.iload_n 1, 1) := by decide +kernel
theorem dX8_run_1 : decode cX8_run 1 = .ok (.iconst 0, 1) := by decide +kernel
theorem dX8_run_2 : decode cX8_run 2 = .ok (.iconst 1, 1) := by decide +kernel
theorem dX8_run_3 : decode cX8_run 3 = .ok (.invokestatic 109, 3) := by decide +kernel
theorem dX8_run_6 : decode cX8_run 6 = .ok (.ifCond .ne 5, 3) := by decide +kernel
theorem dX8_run_9 : decode cX8_run 9 = .ok (.iconst (-1), 1) := by decide +kernel
theorem dX8_run_10 : decode cX8_run 10 = .ok (.ireturn, 1) := by decide +kernel
theorem dX8_run_11 : decode cX8_run 11 = .ok (.iconst 0, 1) := by decide +kernel
theorem dX8_run_12 : decode cX8_run 12 = .ok (.istore_n 2, 1) := by decide +kernel
theorem dX8_run_13 : decode cX8_run 13 = .ok (.iconst 1, 1) := by decide +kernel
theorem dX8_run_14 : decode cX8_run 14 = .ok (.istore_n 3, 1) := by decide +kernel
theorem dX8_run_15 : decode cX8_run 15 = .ok (.iload_n 3, 1) := by decide +kernel
theorem dX8_run_16 : decode cX8_run 16 = .ok (.sipush 4096, 3) := by decide +kernel
theorem dX8_run_19 : decode cX8_run 19 = .ok (.if_icmp .ge 30, 3) := by decide +kernel
theorem dX8_run_22 : decode cX8_run 22 = .ok (.iload_n 3, 1) := by decide +kernel
theorem dX8_run_23 : decode cX8_run 23 = .ok (.invokestatic 285, 3) := by decide +kernel
theorem dX8_run_26 : decode cX8_run 26 = .ok (.iload_n 2, 1) := by decide +kernel
theorem dX8_run_27 : decode cX8_run 27 = .ok (.invokestatic 285, 3) := by decide +kernel
theorem dX8_run_30 : decode cX8_run 30 = .ok (.if_icmp .le 13, 3) := by decide +kernel
theorem dX8_run_33 : decode cX8_run 33 = .ok (.aload_n 0, 1) := by decide +kernel
theorem dX8_run_34 : decode cX8_run 34 = .ok (.iload_n 3, 1) := by decide +kernel
theorem dX8_run_35 : decode cX8_run 35 = .ok (.invokevirtual 290, 3) := by decide +kernel
theorem dX8_run_38 : decode cX8_run 38 = .ok (.ifCond .eq 5, 3) := by decide +kernel
theorem dX8_run_41 : decode cX8_run 41 = .ok (.iload_n 3, 1) := by decide +kernel
theorem dX8_run_42 : decode cX8_run 42 = .ok (.istore_n 2, 1) := by decide +kernel
theorem dX8_run_43 : decode cX8_run 43 = .ok (.iinc 3 1, 3) := by decide +kernel
theorem dX8_run_46 : decode cX8_run 46 = .ok (.goto (-31), 3) := by decide +kernel
theorem dX8_run_49 : decode cX8_run 49 = .ok (.iload_n 1, 1) := by decide +kernel
theorem dX8_run_50 : decode cX8_run 50 = .ok (.iconst 1, 1) := by decide +kernel
theorem dX8_run_51 : decode cX8_run 51 = .ok (.if_icmp .ne 7, 3) := by decide +kernel
theorem dX8_run_54 : decode cX8_run 54 = .ok (.iload_n 2, 1) := by decide +kernel
theorem dX8_run_55 : decode cX8_run 55 = .ok (.goto 7, 3) := by decide +kernel
theorem dX8_run_58 : decode cX8_run 58 = .ok (.iload_n 2, 1) := by decide +kernel
theorem dX8_run_59 : decode cX8_run 59 = .ok (.invokestatic 285, 3) := by decide +kernel
theorem dX8_run_62 : decode cX8_run 62 = .ok (.ireturn, 1) := by decide +kernel
theorem dX8_isInOrder_0 : decode cX8_isInOrder 0 = .ok (.iconst 1, 1) := by decide +kernel
theorem dX8_isInOrder_1 : decode cX8_isInOrder 1 = .ok (.istore_n 1, 1) := by decide +kernel
theorem dX8_isInOrder_2 : decode cX8_isInOrder 2 = .ok (.iload_n 1, 1) := by decide +kernel
theorem dX8_isInOrder_3 : decode cX8_isInOrder 3 = .ok (.bipush 12, 2) := by decide +kernel
theorem dX8_isInOrder_5 : decode cX8_isInOrder 5 = .ok (.if_icmp .ge 28, 3) := by decide +kernel
theorem dX8_isInOrder_8 : decode cX8_isInOrder 8 = .ok (.aload_n 0, 1) := by decide +kernel
theorem dX8_isInOrder_9 : decode cX8_isInOrder 9 = .ok (.getfield 9, 3) := by decide +kernel
theorem dX8_isInOrder_12 : decode cX8_isInOrder 12 = .ok (.iload_n 1, 1) := by decide +kernel
theorem dX8_isInOrder_13 : decode cX8_isInOrder 13 = .ok (.iaload, 1) := by decide +kernel
theorem dX8_isInOrder_14 : decode cX8_isInOrder 14 = .ok (.aload_n 0, 1) := by decide +kernel
theorem dX8_isInOrder_15 : decode cX8_isInOrder 15 = .ok (.getfield 9, 3) := by decide +kernel
theorem dX8_isInOrder_18 : decode cX8_isInOrder 18 = .ok (.iload_n 1, 1) := by decide +kernel
theorem dX8_isInOrder_19 : decode cX8_isInOrder 19 = .ok (.iconst 1, 1) := by decide +kernel
theorem dX8_isInOrder_20 : decode cX8_isInOrder 20 = .ok (.isub, 1) := by decide +kernel
theorem dX8_isInOrder_21 : decode cX8_isInOrder 21 = .ok (.iaload, 1) := by decide +kernel
theorem dX8_isInOrder_22 : decode cX8_isInOrder 22 = .ok (.if_icmp .ge 5, 3) := by decide +kernel
theorem dX8_isInOrder_25 : decode cX8_isInOrder 25 = .ok (.iconst 0, 1) := by decide +kernel
theorem dX8_isInOrder_26 : decode cX8_isInOrder 26 = .ok (.ireturn, 1) := by decide +kernel
theorem dX8_isInOrder_27 : decode cX8_isInOrder 27 = .ok (.iinc 1 1, 3) := by decide +kernel
theorem dX8_isInOrder_30 : decode cX8_isInOrder 30 = .ok (.goto (-28), 3) := by decide +kernel
theorem dX8_isInOrder_33 : decode cX8_isInOrder 33 = .ok (.iconst 1, 1) := by decide +kernel
theorem dX8_isInOrder_34 : decode cX8_isInOrder 34 = .ok (.ireturn, 1) := by decide +kernel
theorem dX8_isEnough_0 : decode cX8_isEnough 0 = .ok (.iload_n 1, 1) := by decide +kernel
theorem dX8_isEnough_1 : decode cX8_isEnough 1 = .ok (.iload_n 2, 1) := by decide +kernel
theorem dX8_isEnough_2 : decode cX8_isEnough 2 = .ok (.if_icmp .ne 52, 3) := by decide +kernel
theorem dX8_isEnough_5 : decode cX8_isEnough 5 = .ok (.aload_n 0, 1) := by decide +kernel
theorem dX8_isEnough_6 : decode cX8_isEnough 6 = .ok (.aload_n 0, 1) := by decide +kernel
theorem dX8_isEnough_7 : decode cX8_isEnough 7 = .ok (.getfield 97, 3) := by decide +kernel
theorem dX8_isEnough_10 : decode cX8_isEnough 10 = .ok (.invokevirtual 273, 3) := by decide +kernel
theorem dX8_isEnough_13 : decode cX8_isEnough 13 = .ok (.iconst 0, 1) := by decide +kernel
theorem dX8_isEnough_14 : decode cX8_isEnough 14 = .ok (.istore_n 3, 1) := by decide +kernel
theorem dX8_isEnough_15 : decode cX8_isEnough 15 = .ok (.iload_n 3, 1) := by decide +kernel
theorem dX8_isEnough_16 : decode cX8_isEnough 16 = .ok (.iload_n 2, 1) := by decide +kernel
theorem dX8_isEnough_17 : decode cX8_isEnough 17 = .ok (.if_icmp .ge 32, 3) := by decide +kernel
theorem dX8_isEnough_20 : decode cX8_isEnough 20 = .ok (.aload_n 0, 1) := by decide +kernel
theorem dX8_isEnough_21 : decode cX8_isEnough 21 = .ok (.aload_n 0, 1) := by decide +kernel
theorem dX8_isEnough_22 : decode cX8_isEnough 22 = .ok (.getfield 103, 3) := by decide +kernel
theorem dX8_isEnough_25 : decode cX8_isEnough 25 = .ok (.iload_n 3, 1) := by decide +kernel
theorem dX8_isEnough_26 : decode cX8_isEnough 26 = .ok (.iaload, 1) := by decide +kernel
theorem dX8_isEnough_27 : decode cX8_isEnough 27 = .ok (.bipush 12, 2) := by decide +kernel
theorem dX8_isEnough_29 : decode cX8_isEnough 29 = .ok (.idiv, 1) := by decide +kernel
theorem dX8_isEnough_30 : decode cX8_isEnough 30 = .ok (.aload_n 0, 1) := by decide +kernel
theorem dX8_isEnough_31 : decode cX8_isEnough 31 = .ok (.getfield 103, 3) := by decide +kernel
theorem dX8_isEnough_34 : decode cX8_isEnough 34 = .ok (.iload_n 3, 1) := by decide +kernel
theorem dX8_isEnough_35 : decode cX8_isEnough 35 = .ok (.iaload, 1) := by decide +kernel
theorem dX8_isEnough_36 : decode cX8_isEnough 36 = .ok (.bipush 12, 2) := by decide +kernel
theorem dX8_isEnough_38 : decode cX8_isEnough 38 = .ok (.irem, 1) := by decide +kernel
theorem dX8_isEnough_39 : decode cX8_isEnough 39 = .ok (.invokevirtual 260, 3) := by decide +kernel
theorem dX8_isEnough_42 : decode cX8_isEnough 42 = .ok (.pop, 1) := by decide +kernel
theorem dX8_isEnough_43 : decode cX8_isEnough 43 = .ok (.iinc 3 1, 3) := by decide +kernel
theorem dX8_isEnough_46 : decode cX8_isEnough 46 = .ok (.goto (-31), 3) := by decide +kernel
theorem dX8_isEnough_49 : decode cX8_isEnough 49 = .ok (.aload_n 0, 1) := by decide +kernel
theorem dX8_isEnough_50 : decode cX8_isEnough 50 = .ok (.invokevirtual 293, 3) := by decide +kernel
theorem dX8_isEnough_53 : decode cX8_isEnough 53 = .ok (.ireturn, 1) := by decide +kernel
theorem dX8_isEnough_54 : decode cX8_isEnough 54 = .ok (.iconst 0, 1) := by decide +kernel
theorem dX8_isEnough_55 : decode cX8_isEnough 55 = .ok (.istore_n 3, 1) := by decide +kernel
theorem dX8_isEnough_56 : decode cX8_isEnough 56 = .ok (.iload_n 3, 1) := by decide +kernel
theorem dX8_isEnough_57 : decode cX8_isEnough 57 = .ok (.bipush 12, 2) := by decide +kernel
theorem dX8_isEnough_59 : decode cX8_isEnough 59 = .ok (.aload_n 0, 1) := by decide +kernel
theorem dX8_isEnough_60 : decode cX8_isEnough 60 = .ok (.getfield 117, 3) := by decide +kernel
theorem dX8_isEnough_63 : decode cX8_isEnough 63 = .ok (.imul, 1) := by decide +kernel
theorem dX8_isEnough_64 : decode cX8_isEnough 64 = .ok (.if_icmp .ge 29, 3) := by decide +kernel
theorem dX8_isEnough_67 : decode cX8_isEnough 67 = .ok (.aload_n 0, 1) := by decide +kernel
theorem dX8_isEnough_68 : decode cX8_isEnough 68 = .ok (.getfield 103, 3) := by decide +kernel
theorem dX8_isEnough_71 : decode cX8_isEnough 71 = .ok (.iload_n 1, 1) := by decide +kernel
theorem dX8_isEnough_72 : decode cX8_isEnough 72 = .ok (.iload_n 3, 1) := by decide +kernel
theorem dX8_isEnough_73 : decode cX8_isEnough 73 = .ok (.iastore, 1) := by decide +kernel
theorem dX8_isEnough_74 : decode cX8_isEnough 74 = .ok (.aload_n 0, 1) := by decide +kernel
theorem dX8_isEnough_75 : decode cX8_isEnough 75 = .ok (.iload_n 1, 1) := by decide +kernel
theorem dX8_isEnough_76 : decode cX8_isEnough 76 = .ok (.iconst 1, 1) := by decide +kernel
theorem dX8_isEnough_77 : decode cX8_isEnough 77 = .ok (.iadd, 1) := by decide +kernel
theorem dX8_isEnough_78 : decode cX8_isEnough 78 = .ok (.iload_n 2, 1) := by decide +kernel
theorem dX8_isEnough_79 : decode cX8_isEnough 79 = .ok (.invokevirtual 296, 3) := by decide +kernel
theorem dX8_isEnough_82 : decode cX8_isEnough 82 = .ok (.ifCond .eq 5, 3) := by decide +kernel
theorem dX8_isEnough_85 : decode cX8_isEnough 85 = .ok (.iconst 1, 1) := by decide +kernel
theorem dX8_isEnough_86 : decode cX8_isEnough 86 = .ok (.ireturn, 1) := by decide +kernel
theorem dX8_isEnough_87 : decode cX8_isEnough 87 = .ok (.iinc 3 1, 3) := by decide +kernel
theorem dX8_isEnough_90 : decode cX8_isEnough 90 = .ok (.goto (-34), 3) := by decide +kernel
theorem dX8_isEnough_93 : decode cX8_isEnough 93 = .ok (.iconst 0, 1) := by decide +kernel
theorem dX8_isEnough_94 : decode cX8_isEnough 94 = .ok (.ireturn, 1) := by decide +kernel
theorem dX8_fewest_0 : decode cX8_fewest 0 = .ok (.iload_n 1, 1) := by decide +kernel
theorem dX8_fewest_1 : decode cX8_fewest 1 = .ok (.iconst (-1), 1) := by decide +kernel
theorem dX8_fewest_2 : decode cX8_fewest 2 = .ok (.if_icmp .ge 5, 3) := by decide +kernel
theorem dX8_fewest_5 : decode cX8_fewest 5 = .ok (.iconst (-1), 1) := by decide +kernel
theorem dX8_fewest_6 : decode cX8_fewest 6 = .ok (.ireturn, 1) := by decide +kernel
theorem dX8_fewest_7 : decode cX8_fewest 7 = .ok (.aload_n 0, 1) := by decide +kernel
theorem dX8_fewest_8 : decode cX8_fewest 8 = .ok (.aload_n 0, 1) := by decide +kernel
theorem dX8_fewest_9 : decode cX8_fewest 9 = .ok (.getfield 97, 3) := by decide +kernel
theorem dX8_fewest_12 : decode cX8_fewest 12 = .ok (.invokevirtual 266, 3) := by decide +kernel
theorem dX8_fewest_15 : decode cX8_fewest 15 = .ok (.bipush (-2), 2) := by decide +kernel
theorem dX8_fewest_17 : decode cX8_fewest 17 = .ok (.istore_n 2, 1) := by decide +kernel
theorem dX8_fewest_18 : decode cX8_fewest 18 = .ok (.iconst 0, 1) := by decide +kernel
theorem dX8_fewest_19 : decode cX8_fewest 19 = .ok (.istore_n 3, 1) := by decide +kernel
theorem dX8_fewest_20 : decode cX8_fewest 20 = .ok (.iload_n 3, 1) := by decide +kernel
theorem dX8_fewest_21 : decode cX8_fewest 21 = .ok (.iconst 3, 1) := by decide +kernel
theorem dX8_fewest_22 : decode cX8_fewest 22 = .ok (.if_icmp .ge 26, 3) := by decide +kernel
theorem dX8_fewest_25 : decode cX8_fewest 25 = .ok (.iload_n 2, 1) := by decide +kernel
theorem dX8_fewest_26 : decode cX8_fewest 26 = .ok (.bipush (-2), 2) := by decide +kernel
theorem dX8_fewest_28 : decode cX8_fewest 28 = .ok (.if_icmp .ne 20, 3) := by decide +kernel
theorem dX8_fewest_31 : decode cX8_fewest 31 = .ok (.aload_n 0, 1) := by decide +kernel
theorem dX8_fewest_32 : decode cX8_fewest 32 = .ok (.iconst 0, 1) := by decide +kernel
theorem dX8_fewest_33 : decode cX8_fewest 33 = .ok (.iload_n 3, 1) := by decide +kernel
theorem dX8_fewest_34 : decode cX8_fewest 34 = .ok (.invokevirtual 296, 3) := by decide +kernel
theorem dX8_fewest_37 : decode cX8_fewest 37 = .ok (.ifCond .eq 5, 3) := by decide +kernel
theorem dX8_fewest_40 : decode cX8_fewest 40 = .ok (.iload_n 3, 1) := by decide +kernel
theorem dX8_fewest_41 : decode cX8_fewest 41 = .ok (.istore_n 2, 1) := by decide +kernel
theorem dX8_fewest_42 : decode cX8_fewest 42 = .ok (.iinc 3 1, 3) := by decide +kernel
theorem dX8_fewest_45 : decode cX8_fewest 45 = .ok (.goto (-25), 3) := by decide +kernel
theorem dX8_fewest_48 : decode cX8_fewest 48 = .ok (.aload_n 0, 1) := by decide +kernel
theorem dX8_fewest_49 : decode cX8_fewest 49 = .ok (.aload_n 0, 1) := by decide +kernel
theorem dX8_fewest_50 : decode cX8_fewest 50 = .ok (.getfield 97, 3) := by decide +kernel
theorem dX8_fewest_53 : decode cX8_fewest 53 = .ok (.invokevirtual 273, 3) := by decide +kernel
theorem dX8_fewest_56 : decode cX8_fewest 56 = .ok (.iload_n 2, 1) := by decide +kernel
theorem dX8_fewest_57 : decode cX8_fewest 57 = .ok (.bipush (-2), 2) := by decide +kernel
theorem dX8_fewest_59 : decode cX8_fewest 59 = .ok (.if_icmp .eq 8, 3) := by decide +kernel
theorem dX8_fewest_62 : decode cX8_fewest 62 = .ok (.iload_n 1, 1) := by decide +kernel
theorem dX8_fewest_63 : decode cX8_fewest 63 = .ok (.iconst (-1), 1) := by decide +kernel
theorem dX8_fewest_64 : decode cX8_fewest 64 = .ok (.if_icmp .ne 7, 3) := by decide +kernel
theorem dX8_fewest_67 : decode cX8_fewest 67 = .ok (.iload_n 2, 1) := by decide +kernel
theorem dX8_fewest_68 : decode cX8_fewest 68 = .ok (.goto 19, 3) := by decide +kernel
theorem dX8_fewest_71 : decode cX8_fewest 71 = .ok (.iload_n 1, 1) := by decide +kernel
theorem dX8_fewest_72 : decode cX8_fewest 72 = .ok (.iload_n 2, 1) := by decide +kernel
theorem dX8_fewest_73 : decode cX8_fewest 73 = .ok (.if_icmp .ge 12, 3) := by decide +kernel
theorem dX8_fewest_76 : decode cX8_fewest 76 = .ok (.aload_n 0, 1) := by decide +kernel
theorem dX8_fewest_77 : decode cX8_fewest 77 = .ok (.getfield 103, 3) := by decide +kernel
theorem dX8_fewest_80 : decode cX8_fewest 80 = .ok (.iload_n 1, 1) := by decide +kernel
theorem dX8_fewest_81 : decode cX8_fewest 81 = .ok (.iaload, 1) := by decide +kernel
theorem dX8_fewest_82 : decode cX8_fewest 82 = .ok (.goto 5, 3) := by decide +kernel
theorem dX8_fewest_85 : decode cX8_fewest 85 = .ok (.bipush (-2), 2) := by decide +kernel
theorem dX8_fewest_87 : decode cX8_fewest 87 = .ok (.ireturn, 1) := by decide +kernel
theorem dX8_all_0 : decode cX8_all 0 = .ok (.iload_n 1, 1) := by decide +kernel
theorem dX8_all_1 : decode cX8_all 1 = .ok (.invokestatic 120, 3) := by decide +kernel
theorem dX8_all_4 : decode cX8_all 4 = .ok (.ifCond .ne 5, 3) := by decide +kernel
theorem dX8_all_7 : decode cX8_all 7 = .ok (.iconst (-1), 1) := by decide +kernel
theorem dX8_all_8 : decode cX8_all 8 = .ok (.ireturn, 1) := by decide +kernel
theorem dX8_all_9 : decode cX8_all 9 = .ok (.aload_n 0, 1) := by decide +kernel
theorem dX8_all_10 : decode cX8_all 10 = .ok (.aload_n 0, 1) := by decide +kernel
theorem dX8_all_11 : decode cX8_all 11 = .ok (.getfield 97, 3) := by decide +kernel
theorem dX8_all_14 : decode cX8_all 14 = .ok (.invokevirtual 266, 3) := by decide +kernel
theorem dX8_all_17 : decode cX8_all 17 = .ok (.iconst 0, 1) := by decide +kernel
theorem dX8_all_18 : decode cX8_all 18 = .ok (.istore_n 2, 1) := by decide +kernel
theorem dX8_all_19 : decode cX8_all 19 = .ok (.iload_n 2, 1) := by decide +kernel
theorem dX8_all_20 : decode cX8_all 20 = .ok (.aload_n 0, 1) := by decide +kernel
theorem dX8_all_21 : decode cX8_all 21 = .ok (.getfield 117, 3) := by decide +kernel
theorem dX8_all_24 : decode cX8_all 24 = .ok (.if_icmp .ge 16, 3) := by decide +kernel
theorem dX8_all_27 : decode cX8_all 27 = .ok (.aload_n 0, 1) := by decide +kernel
theorem dX8_all_28 : decode cX8_all 28 = .ok (.iload_n 2, 1) := by decide +kernel
theorem dX8_all_29 : decode cX8_all 29 = .ok (.iload_n 1, 1) := by decide +kernel
theorem dX8_all_30 : decode cX8_all 30 = .ok (.invokevirtual 260, 3) := by decide +kernel
theorem dX8_all_33 : decode cX8_all 33 = .ok (.pop, 1) := by decide +kernel
theorem dX8_all_34 : decode cX8_all 34 = .ok (.iinc 2 1, 3) := by decide +kernel
theorem dX8_all_37 : decode cX8_all 37 = .ok (.goto (-18), 3) := by decide +kernel
theorem dX8_all_40 : decode cX8_all 40 = .ok (.aload_n 0, 1) := by decide +kernel
theorem dX8_all_41 : decode cX8_all 41 = .ok (.getfield 9, 3) := by decide +kernel
theorem dX8_all_44 : decode cX8_all 44 = .ok (.iload_n 1, 1) := by decide +kernel
theorem dX8_all_45 : decode cX8_all 45 = .ok (.iaload, 1) := by decide +kernel
theorem dX8_all_46 : decode cX8_all 46 = .ok (.istore_n 2, 1) := by decide +kernel
theorem dX8_all_47 : decode cX8_all 47 = .ok (.aload_n 0, 1) := by decide +kernel
theorem dX8_all_48 : decode cX8_all 48 = .ok (.aload_n 0, 1) := by decide +kernel
theorem dX8_all_49 : decode cX8_all 49 = .ok (.getfield 97, 3) := by decide +kernel
theorem dX8_all_52 : decode cX8_all 52 = .ok (.invokevirtual 273, 3) := by decide +kernel
theorem dX8_all_55 : decode cX8_all 55 = .ok (.iload_n 2, 1) := by decide +kernel
theorem dX8_all_56 : decode cX8_all 56 = .ok (.ireturn, 1) := by decide +kernel
theorem dX8_atOnce_0 : decode cX8_atOnce 0 = .ok (.iconst 0, 1) := by decide +kernel
theorem dX8_atOnce_1 : decode cX8_atOnce 1 = .ok (.istore_n 2, 1) := by decide +kernel
theorem dX8_atOnce_2 : decode cX8_atOnce 2 = .ok (.iconst 0, 1) := by decide +kernel
theorem dX8_atOnce_3 : decode cX8_atOnce 3 = .ok (.istore_n 3, 1) := by decide +kernel
theorem dX8_atOnce_4 : decode cX8_atOnce 4 = .ok (.iconst 0, 1) := by decide +kernel
theorem dX8_atOnce_5 : decode cX8_atOnce 5 = .ok (.istore 4, 2) := by decide +kernel
theorem dX8_atOnce_7 : decode cX8_atOnce 7 = .ok (.iconst 0, 1) := by decide +kernel
theorem dX8_atOnce_8 : decode cX8_atOnce 8 = .ok (.istore 5, 2) := by decide +kernel
theorem dX8_atOnce_10 : decode cX8_atOnce 10 = .ok (.iload 5, 2) := by decide +kernel
theorem dX8_atOnce_12 : decode cX8_atOnce 12 = .ok (.aload_n 0, 1) := by decide +kernel
theorem dX8_atOnce_13 : decode cX8_atOnce 13 = .ok (.getfield 117, 3) := by decide +kernel
theorem dX8_atOnce_16 : decode cX8_atOnce 16 = .ok (.if_icmp .ge 105, 3) := by decide +kernel
theorem dX8_atOnce_19 : decode cX8_atOnce 19 = .ok (.iload_n 1, 1) := by decide +kernel
theorem dX8_atOnce_20 : decode cX8_atOnce 20 = .ok (.iload 5, 2) := by decide +kernel
theorem dX8_atOnce_22 : decode cX8_atOnce 22 = .ok (.ishr, 1) := by decide +kernel
theorem dX8_atOnce_23 : decode cX8_atOnce 23 = .ok (.iconst 1, 1) := by decide +kernel
theorem dX8_atOnce_24 : decode cX8_atOnce 24 = .ok (.iand, 1) := by decide +kernel
theorem dX8_atOnce_25 : decode cX8_atOnce 25 = .ok (.ifCond .ne 6, 3) := by decide +kernel
theorem dX8_atOnce_28 : decode cX8_atOnce 28 = .ok (.goto 87, 3) := by decide +kernel
theorem dX8_atOnce_31 : decode cX8_atOnce 31 = .ok (.aload_n 0, 1) := by decide +kernel
theorem dX8_atOnce_32 : decode cX8_atOnce 32 = .ok (.getfield 15, 3) := by decide +kernel
theorem dX8_atOnce_35 : decode cX8_atOnce 35 = .ok (.aload_n 0, 1) := by decide +kernel
theorem dX8_atOnce_36 : decode cX8_atOnce 36 = .ok (.getfield 24, 3) := by decide +kernel
theorem dX8_atOnce_39 : decode cX8_atOnce 39 = .ok (.iload 5, 2) := by decide +kernel
theorem dX8_atOnce_41 : decode cX8_atOnce 41 = .ok (.iaload, 1) := by decide +kernel
theorem dX8_atOnce_42 : decode cX8_atOnce 42 = .ok (.iaload, 1) := by decide +kernel
theorem dX8_atOnce_43 : decode cX8_atOnce 43 = .ok (.istore 6, 2) := by decide +kernel
theorem dX8_atOnce_45 : decode cX8_atOnce 45 = .ok (.aload_n 0, 1) := by decide +kernel
theorem dX8_atOnce_46 : decode cX8_atOnce 46 = .ok (.getfield 33, 3) := by decide +kernel
theorem dX8_atOnce_49 : decode cX8_atOnce 49 = .ok (.iload 5, 2) := by decide +kernel
theorem dX8_atOnce_51 : decode cX8_atOnce 51 = .ok (.iaload, 1) := by decide +kernel
theorem dX8_atOnce_52 : decode cX8_atOnce 52 = .ok (.iconst 1, 1) := by decide +kernel
theorem dX8_atOnce_53 : decode cX8_atOnce 53 = .ok (.if_icmp .eq 28, 3) := by decide +kernel
theorem dX8_atOnce_56 : decode cX8_atOnce 56 = .ok (.iload_n 2, 1) := by decide +kernel
theorem dX8_atOnce_57 : decode cX8_atOnce 57 = .ok (.aload_n 0, 1) := by decide +kernel
theorem dX8_atOnce_58 : decode cX8_atOnce 58 = .ok (.getfield 21, 3) := by decide +kernel
theorem dX8_atOnce_61 : decode cX8_atOnce 61 = .ok (.iload 5, 2) := by decide +kernel
theorem dX8_atOnce_63 : decode cX8_atOnce 63 = .ok (.iaload, 1) := by decide +kernel
theorem dX8_atOnce_64 : decode cX8_atOnce 64 = .ok (.ishr, 1) := by decide +kernel
theorem dX8_atOnce_65 : decode cX8_atOnce 65 = .ok (.iconst 1, 1) := by decide +kernel
theorem dX8_atOnce_66 : decode cX8_atOnce 66 = .ok (.iand, 1) := by decide +kernel
theorem dX8_atOnce_67 : decode cX8_atOnce 67 = .ok (.iconst 1, 1) := by decide +kernel
theorem dX8_atOnce_68 : decode cX8_atOnce 68 = .ok (.if_icmp .eq 13, 3) := by decide +kernel
theorem dX8_atOnce_71 : decode cX8_atOnce 71 = .ok (.iload_n 3, 1) := by decide +kernel
theorem dX8_atOnce_72 : decode cX8_atOnce 72 = .ok (.iload 6, 2) := by decide +kernel
theorem dX8_atOnce_74 : decode cX8_atOnce 74 = .ok (.ishr, 1) := by decide +kernel
theorem dX8_atOnce_75 : decode cX8_atOnce 75 = .ok (.iconst 1, 1) := by decide +kernel
theorem dX8_atOnce_76 : decode cX8_atOnce 76 = .ok (.iand, 1) := by decide +kernel
theorem dX8_atOnce_77 : decode cX8_atOnce 77 = .ok (.iconst 1, 1) := by decide +kernel
theorem dX8_atOnce_78 : decode cX8_atOnce 78 = .ok (.if_icmp .ne 5, 3) := by decide +kernel
theorem dX8_atOnce_81 : decode cX8_atOnce 81 = .ok (.iconst (-1), 1) := by decide +kernel
theorem dX8_atOnce_82 : decode cX8_atOnce 82 = .ok (.ireturn, 1) := by decide +kernel
theorem dX8_atOnce_83 : decode cX8_atOnce 83 = .ok (.iload_n 2, 1) := by decide +kernel
theorem dX8_atOnce_84 : decode cX8_atOnce 84 = .ok (.iconst 1, 1) := by decide +kernel
theorem dX8_atOnce_85 : decode cX8_atOnce 85 = .ok (.aload_n 0, 1) := by decide +kernel
theorem dX8_atOnce_86 : decode cX8_atOnce 86 = .ok (.getfield 21, 3) := by decide +kernel
theorem dX8_atOnce_89 : decode cX8_atOnce 89 = .ok (.iload 5, 2) := by decide +kernel
theorem dX8_atOnce_91 : decode cX8_atOnce 91 = .ok (.iaload, 1) := by decide +kernel
theorem dX8_atOnce_92 : decode cX8_atOnce 92 = .ok (.ishl, 1) := by decide +kernel
theorem dX8_atOnce_93 : decode cX8_atOnce 93 = .ok (.ior, 1) := by decide +kernel
theorem dX8_atOnce_94 : decode cX8_atOnce 94 = .ok (.istore_n 2, 1) := by decide +kernel
theorem dX8_atOnce_95 : decode cX8_atOnce 95 = .ok (.iload_n 3, 1) := by decide +kernel
theorem dX8_atOnce_96 : decode cX8_atOnce 96 = .ok (.iconst 1, 1) := by decide +kernel
theorem dX8_atOnce_97 : decode cX8_atOnce 97 = .ok (.iload 6, 2) := by decide +kernel
theorem dX8_atOnce_99 : decode cX8_atOnce 99 = .ok (.ishl, 1) := by decide +kernel
theorem dX8_atOnce_100 : decode cX8_atOnce 100 = .ok (.ior, 1) := by decide +kernel
theorem dX8_atOnce_101 : decode cX8_atOnce 101 = .ok (.istore_n 3, 1) := by decide +kernel
theorem dX8_atOnce_102 : decode cX8_atOnce 102 = .ok (.iload 4, 2) := by decide +kernel
theorem dX8_atOnce_104 : decode cX8_atOnce 104 = .ok (.aload_n 0, 1) := by decide +kernel
theorem dX8_atOnce_105 : decode cX8_atOnce 105 = .ok (.iload 5, 2) := by decide +kernel
theorem dX8_atOnce_107 : decode cX8_atOnce 107 = .ok (.iload 6, 2) := by decide +kernel
theorem dX8_atOnce_109 : decode cX8_atOnce 109 = .ok (.invokevirtual 254, 3) := by decide +kernel
theorem dX8_atOnce_112 : decode cX8_atOnce 112 = .ok (.iadd, 1) := by decide +kernel
theorem dX8_atOnce_113 : decode cX8_atOnce 113 = .ok (.istore 4, 2) := by decide +kernel
theorem dX8_atOnce_115 : decode cX8_atOnce 115 = .ok (.iinc 5 1, 3) := by decide +kernel
theorem dX8_atOnce_118 : decode cX8_atOnce 118 = .ok (.goto (-108), 3) := by decide +kernel
theorem dX8_atOnce_121 : decode cX8_atOnce 121 = .ok (.iload 4, 2) := by decide +kernel
theorem dX8_atOnce_123 : decode cX8_atOnce 123 = .ok (.ireturn, 1) := by decide +kernel
theorem dX8_evening_0 : decode cX8_evening 0 = .ok (.iload_n 1, 1) := by decide +kernel
theorem dX8_evening_1 : decode cX8_evening 1 = .ok (.iconst 0, 1) := by decide +kernel
theorem dX8_evening_2 : decode cX8_evening 2 = .ok (.iconst 1, 1) := by decide +kernel
theorem dX8_evening_3 : decode cX8_evening 3 = .ok (.invokestatic 109, 3) := by decide +kernel
theorem dX8_evening_6 : decode cX8_evening 6 = .ok (.ifCond .ne 5, 3) := by decide +kernel
theorem dX8_evening_9 : decode cX8_evening 9 = .ok (.iconst (-1), 1) := by decide +kernel
theorem dX8_evening_10 : decode cX8_evening 10 = .ok (.ireturn, 1) := by decide +kernel
theorem dX8_evening_11 : decode cX8_evening 11 = .ok (.iconst 0, 1) := by decide +kernel
theorem dX8_evening_12 : decode cX8_evening 12 = .ok (.istore_n 2, 1) := by decide +kernel
theorem dX8_evening_13 : decode cX8_evening 13 = .ok (.iconst 0, 1) := by decide +kernel
theorem dX8_evening_14 : decode cX8_evening 14 = .ok (.istore_n 3, 1) := by decide +kernel
theorem dX8_evening_15 : decode cX8_evening 15 = .ok (.iconst 1, 1) := by decide +kernel
theorem dX8_evening_16 : decode cX8_evening 16 = .ok (.istore 4, 2) := by decide +kernel
theorem dX8_evening_18 : decode cX8_evening 18 = .ok (.iload 4, 2) := by decide +kernel
theorem dX8_evening_20 : decode cX8_evening 20 = .ok (.iconst 1, 1) := by decide +kernel
theorem dX8_evening_21 : decode cX8_evening 21 = .ok (.aload_n 0, 1) := by decide +kernel
theorem dX8_evening_22 : decode cX8_evening 22 = .ok (.getfield 117, 3) := by decide +kernel
theorem dX8_evening_25 : decode cX8_evening 25 = .ok (.ishl, 1) := by decide +kernel
theorem dX8_evening_26 : decode cX8_evening 26 = .ok (.if_icmp .ge 50, 3) := by decide +kernel
theorem dX8_evening_29 : decode cX8_evening 29 = .ok (.aload_n 0, 1) := by decide +kernel
theorem dX8_evening_30 : decode cX8_evening 30 = .ok (.iload 4, 2) := by decide +kernel
theorem dX8_evening_32 : decode cX8_evening 32 = .ok (.invokevirtual 299, 3) := by decide +kernel
theorem dX8_evening_35 : decode cX8_evening 35 = .ok (.istore 5, 2) := by decide +kernel
theorem dX8_evening_37 : decode cX8_evening 37 = .ok (.iload 5, 2) := by decide +kernel
theorem dX8_evening_39 : decode cX8_evening 39 = .ok (.iload_n 3, 1) := by decide +kernel
theorem dX8_evening_40 : decode cX8_evening 40 = .ok (.if_icmp .lt 30, 3) := by decide +kernel
theorem dX8_evening_43 : decode cX8_evening 43 = .ok (.iload 5, 2) := by decide +kernel
theorem dX8_evening_45 : decode cX8_evening 45 = .ok (.iload_n 3, 1) := by decide +kernel
theorem dX8_evening_46 : decode cX8_evening 46 = .ok (.if_icmp .ne 18, 3) := by decide +kernel
theorem dX8_evening_49 : decode cX8_evening 49 = .ok (.iload 4, 2) := by decide +kernel
theorem dX8_evening_51 : decode cX8_evening 51 = .ok (.invokestatic 285, 3) := by decide +kernel
theorem dX8_evening_54 : decode cX8_evening 54 = .ok (.iload_n 2, 1) := by decide +kernel
theorem dX8_evening_55 : decode cX8_evening 55 = .ok (.invokestatic 285, 3) := by decide +kernel
theorem dX8_evening_58 : decode cX8_evening 58 = .ok (.if_icmp .lt 6, 3) := by decide +kernel
theorem dX8_evening_61 : decode cX8_evening 61 = .ok (.goto 9, 3) := by decide +kernel
theorem dX8_evening_64 : decode cX8_evening 64 = .ok (.iload 5, 2) := by decide +kernel
theorem dX8_evening_66 : decode cX8_evening 66 = .ok (.istore_n 3, 1) := by decide +kernel
theorem dX8_evening_67 : decode cX8_evening 67 = .ok (.iload 4, 2) := by decide +kernel
theorem dX8_evening_69 : decode cX8_evening 69 = .ok (.istore_n 2, 1) := by decide +kernel
theorem dX8_evening_70 : decode cX8_evening 70 = .ok (.iinc 4 1, 3) := by decide +kernel
theorem dX8_evening_73 : decode cX8_evening 73 = .ok (.goto (-55), 3) := by decide +kernel
theorem dX8_evening_76 : decode cX8_evening 76 = .ok (.iload_n 1, 1) := by decide +kernel
theorem dX8_evening_77 : decode cX8_evening 77 = .ok (.ifCond .ne 7, 3) := by decide +kernel
theorem dX8_evening_80 : decode cX8_evening 80 = .ok (.iload_n 3, 1) := by decide +kernel
theorem dX8_evening_81 : decode cX8_evening 81 = .ok (.goto 4, 3) := by decide +kernel
theorem dX8_evening_84 : decode cX8_evening 84 = .ok (.iload_n 2, 1) := by decide +kernel
theorem dX8_evening_85 : decode cX8_evening 85 = .ok (.ireturn, 1) := by decide +kernel
theorem dX8_ring_0 : decode cX8_ring 0 = .ok (.bipush (-2), 2) := by decide +kernel
theorem dX8_ring_2 : decode cX8_ring 2 = .ok (.istore_n 1, 1) := by decide +kernel
theorem dX8_ring_3 : decode cX8_ring 3 = .ok (.iconst 0, 1) := by decide +kernel
theorem dX8_ring_4 : decode cX8_ring 4 = .ok (.istore_n 2, 1) := by decide +kernel
theorem dX8_ring_5 : decode cX8_ring 5 = .ok (.iload_n 2, 1) := by decide +kernel
theorem dX8_ring_6 : decode cX8_ring 6 = .ok (.aload_n 0, 1) := by decide +kernel
theorem dX8_ring_7 : decode cX8_ring 7 = .ok (.getfield 113, 3) := by decide +kernel
theorem dX8_ring_10 : decode cX8_ring 10 = .ok (.if_icmp .ge 119, 3) := by decide +kernel
theorem dX8_ring_13 : decode cX8_ring 13 = .ok (.iconst 1, 1) := by decide +kernel
theorem dX8_ring_14 : decode cX8_ring 14 = .ok (.iload_n 2, 1) := by decide +kernel
theorem dX8_ring_15 : decode cX8_ring 15 = .ok (.ishl, 1) := by decide +kernel
theorem dX8_ring_16 : decode cX8_ring 16 = .ok (.istore_n 3, 1) := by decide +kernel
theorem dX8_ring_17 : decode cX8_ring 17 = .ok (.iconst 1, 1) := by decide +kernel
theorem dX8_ring_18 : decode cX8_ring 18 = .ok (.istore 4, 2) := by decide +kernel
theorem dX8_ring_20 : decode cX8_ring 20 = .ok (.iload 4, 2) := by decide +kernel
theorem dX8_ring_22 : decode cX8_ring 22 = .ok (.aload_n 0, 1) := by decide +kernel
theorem dX8_ring_23 : decode cX8_ring 23 = .ok (.getfield 113, 3) := by decide +kernel
theorem dX8_ring_26 : decode cX8_ring 26 = .ok (.if_icmp .gt 97, 3) := by decide +kernel
theorem dX8_ring_29 : decode cX8_ring 29 = .ok (.iconst 0, 1) := by decide +kernel
theorem dX8_ring_30 : decode cX8_ring 30 = .ok (.istore 5, 2) := by decide +kernel
theorem dX8_ring_32 : decode cX8_ring 32 = .ok (.iconst 0, 1) := by decide +kernel
theorem dX8_ring_33 : decode cX8_ring 33 = .ok (.istore 6, 2) := by decide +kernel
theorem dX8_ring_35 : decode cX8_ring 35 = .ok (.iload 6, 2) := by decide +kernel
theorem dX8_ring_37 : decode cX8_ring 37 = .ok (.aload_n 0, 1) := by decide +kernel
theorem dX8_ring_38 : decode cX8_ring 38 = .ok (.getfield 117, 3) := by decide +kernel
theorem dX8_ring_41 : decode cX8_ring 41 = .ok (.if_icmp .ge 48, 3) := by decide +kernel
theorem dX8_ring_44 : decode cX8_ring 44 = .ok (.aload_n 0, 1) := by decide +kernel
theorem dX8_ring_45 : decode cX8_ring 45 = .ok (.getfield 33, 3) := by decide +kernel
theorem dX8_ring_48 : decode cX8_ring 48 = .ok (.iload 6, 2) := by decide +kernel
theorem dX8_ring_50 : decode cX8_ring 50 = .ok (.iaload, 1) := by decide +kernel
theorem dX8_ring_51 : decode cX8_ring 51 = .ok (.ifCond .ne 32, 3) := by decide +kernel
theorem dX8_ring_54 : decode cX8_ring 54 = .ok (.iload_n 3, 1) := by decide +kernel
theorem dX8_ring_55 : decode cX8_ring 55 = .ok (.aload_n 0, 1) := by decide +kernel
theorem dX8_ring_56 : decode cX8_ring 56 = .ok (.getfield 21, 3) := by decide +kernel
theorem dX8_ring_59 : decode cX8_ring 59 = .ok (.iload 6, 2) := by decide +kernel
theorem dX8_ring_61 : decode cX8_ring 61 = .ok (.iaload, 1) := by decide +kernel
theorem dX8_ring_62 : decode cX8_ring 62 = .ok (.ishr, 1) := by decide +kernel
theorem dX8_ring_63 : decode cX8_ring 63 = .ok (.iconst 1, 1) := by decide +kernel
theorem dX8_ring_64 : decode cX8_ring 64 = .ok (.iand, 1) := by decide +kernel
theorem dX8_ring_65 : decode cX8_ring 65 = .ok (.iconst 1, 1) := by decide +kernel
theorem dX8_ring_66 : decode cX8_ring 66 = .ok (.if_icmp .ne 17, 3) := by decide +kernel
theorem dX8_ring_69 : decode cX8_ring 69 = .ok (.iload 5, 2) := by decide +kernel
theorem dX8_ring_71 : decode cX8_ring 71 = .ok (.iconst 1, 1) := by decide +kernel
theorem dX8_ring_72 : decode cX8_ring 72 = .ok (.aload_n 0, 1) := by decide +kernel
theorem dX8_ring_73 : decode cX8_ring 73 = .ok (.getfield 24, 3) := by decide +kernel
theorem dX8_ring_76 : decode cX8_ring 76 = .ok (.iload 6, 2) := by decide +kernel
theorem dX8_ring_78 : decode cX8_ring 78 = .ok (.iaload, 1) := by decide +kernel
theorem dX8_ring_79 : decode cX8_ring 79 = .ok (.ishl, 1) := by decide +kernel
theorem dX8_ring_80 : decode cX8_ring 80 = .ok (.ior, 1) := by decide +kernel
theorem dX8_ring_81 : decode cX8_ring 81 = .ok (.istore 5, 2) := by decide +kernel
theorem dX8_ring_83 : decode cX8_ring 83 = .ok (.iinc 6 1, 3) := by decide +kernel
theorem dX8_ring_86 : decode cX8_ring 86 = .ok (.goto (-51), 3) := by decide +kernel
theorem dX8_ring_89 : decode cX8_ring 89 = .ok (.iload 5, 2) := by decide +kernel
theorem dX8_ring_91 : decode cX8_ring 91 = .ok (.iload_n 2, 1) := by decide +kernel
theorem dX8_ring_92 : decode cX8_ring 92 = .ok (.ishr, 1) := by decide +kernel
theorem dX8_ring_93 : decode cX8_ring 93 = .ok (.iconst 1, 1) := by decide +kernel
theorem dX8_ring_94 : decode cX8_ring 94 = .ok (.iand, 1) := by decide +kernel
theorem dX8_ring_95 : decode cX8_ring 95 = .ok (.iconst 1, 1) := by decide +kernel
theorem dX8_ring_96 : decode cX8_ring 96 = .ok (.if_icmp .ne 18, 3) := by decide +kernel
theorem dX8_ring_99 : decode cX8_ring 99 = .ok (.iload_n 1, 1) := by decide +kernel
theorem dX8_ring_100 : decode cX8_ring 100 = .ok (.bipush (-2), 2) := by decide +kernel
theorem dX8_ring_102 : decode cX8_ring 102 = .ok (.if_icmp .eq 9, 3) := by decide +kernel
theorem dX8_ring_105 : decode cX8_ring 105 = .ok (.iload 4, 2) := by decide +kernel
theorem dX8_ring_107 : decode cX8_ring 107 = .ok (.iload_n 1, 1) := by decide +kernel
theorem dX8_ring_108 : decode cX8_ring 108 = .ok (.if_icmp .ge 6, 3) := by decide +kernel
theorem dX8_ring_111 : decode cX8_ring 111 = .ok (.iload 4, 2) := by decide +kernel
theorem dX8_ring_113 : decode cX8_ring 113 = .ok (.istore_n 1, 1) := by decide +kernel
theorem dX8_ring_114 : decode cX8_ring 114 = .ok (.iload 5, 2) := by decide +kernel
theorem dX8_ring_116 : decode cX8_ring 116 = .ok (.istore_n 3, 1) := by decide +kernel
theorem dX8_ring_117 : decode cX8_ring 117 = .ok (.iinc 4 1, 3) := by decide +kernel
theorem dX8_ring_120 : decode cX8_ring 120 = .ok (.goto (-100), 3) := by decide +kernel
theorem dX8_ring_123 : decode cX8_ring 123 = .ok (.iinc 2 1, 3) := by decide +kernel
theorem dX8_ring_126 : decode cX8_ring 126 = .ok (.goto (-121), 3) := by decide +kernel
theorem dX8_ring_129 : decode cX8_ring 129 = .ok (.iload_n 1, 1) := by decide +kernel
theorem dX8_ring_130 : decode cX8_ring 130 = .ok (.ireturn, 1) := by decide +kernel
theorem dX8_owes_0 : decode cX8_owes 0 = .ok (.aload_n 0, 1) := by decide +kernel
theorem dX8_owes_1 : decode cX8_owes 1 = .ok (.iload_n 1, 1) := by decide +kernel
theorem dX8_owes_2 : decode cX8_owes 2 = .ok (.invokevirtual 124, 3) := by decide +kernel
theorem dX8_owes_5 : decode cX8_owes 5 = .ok (.ifCond .ne 6, 3) := by decide +kernel
theorem dX8_owes_8 : decode cX8_owes 8 = .ok (.ldc 156, 2) := by decide +kernel
theorem dX8_owes_10 : decode cX8_owes 10 = .ok (.ireturn, 1) := by decide +kernel
theorem dX8_owes_11 : decode cX8_owes 11 = .ok (.iconst 0, 1) := by decide +kernel
theorem dX8_owes_12 : decode cX8_owes 12 = .ok (.istore_n 2, 1) := by decide +kernel
theorem dX8_owes_13 : decode cX8_owes 13 = .ok (.iconst 0, 1) := by decide +kernel
theorem dX8_owes_14 : decode cX8_owes 14 = .ok (.istore_n 3, 1) := by decide +kernel
theorem dX8_owes_15 : decode cX8_owes 15 = .ok (.iload_n 3, 1) := by decide +kernel
theorem dX8_owes_16 : decode cX8_owes 16 = .ok (.aload_n 0, 1) := by decide +kernel
theorem dX8_owes_17 : decode cX8_owes 17 = .ok (.getfield 117, 3) := by decide +kernel
theorem dX8_owes_20 : decode cX8_owes 20 = .ok (.if_icmp .ge 48, 3) := by decide +kernel
theorem dX8_owes_23 : decode cX8_owes 23 = .ok (.aload_n 0, 1) := by decide +kernel
theorem dX8_owes_24 : decode cX8_owes 24 = .ok (.getfield 33, 3) := by decide +kernel
theorem dX8_owes_27 : decode cX8_owes 27 = .ok (.iload_n 3, 1) := by decide +kernel
theorem dX8_owes_28 : decode cX8_owes 28 = .ok (.iaload, 1) := by decide +kernel
theorem dX8_owes_29 : decode cX8_owes 29 = .ok (.iconst 1, 1) := by decide +kernel
theorem dX8_owes_30 : decode cX8_owes 30 = .ok (.if_icmp .ne 6, 3) := by decide +kernel
theorem dX8_owes_33 : decode cX8_owes 33 = .ok (.goto 29, 3) := by decide +kernel
theorem dX8_owes_36 : decode cX8_owes 36 = .ok (.aload_n 0, 1) := by decide +kernel
theorem dX8_owes_37 : decode cX8_owes 37 = .ok (.getfield 21, 3) := by decide +kernel
theorem dX8_owes_40 : decode cX8_owes 40 = .ok (.iload_n 3, 1) := by decide +kernel
theorem dX8_owes_41 : decode cX8_owes 41 = .ok (.iaload, 1) := by decide +kernel
theorem dX8_owes_42 : decode cX8_owes 42 = .ok (.iload_n 1, 1) := by decide +kernel
theorem dX8_owes_43 : decode cX8_owes 43 = .ok (.if_icmp .ne 6, 3) := by decide +kernel
theorem dX8_owes_46 : decode cX8_owes 46 = .ok (.iinc 2 1, 3) := by decide +kernel
theorem dX8_owes_49 : decode cX8_owes 49 = .ok (.aload_n 0, 1) := by decide +kernel
theorem dX8_owes_50 : decode cX8_owes 50 = .ok (.getfield 24, 3) := by decide +kernel
theorem dX8_owes_53 : decode cX8_owes 53 = .ok (.iload_n 3, 1) := by decide +kernel
theorem dX8_owes_54 : decode cX8_owes 54 = .ok (.iaload, 1) := by decide +kernel
theorem dX8_owes_55 : decode cX8_owes 55 = .ok (.iload_n 1, 1) := by decide +kernel
theorem dX8_owes_56 : decode cX8_owes 56 = .ok (.if_icmp .ne 6, 3) := by decide +kernel
theorem dX8_owes_59 : decode cX8_owes 59 = .ok (.iinc 2 (-1), 3) := by decide +kernel
theorem dX8_owes_62 : decode cX8_owes 62 = .ok (.iinc 3 1, 3) := by decide +kernel
theorem dX8_owes_65 : decode cX8_owes 65 = .ok (.goto (-50), 3) := by decide +kernel
theorem dX8_owes_68 : decode cX8_owes 68 = .ok (.iload_n 2, 1) := by decide +kernel
theorem dX8_owes_69 : decode cX8_owes 69 = .ok (.ireturn, 1) := by decide +kernel
theorem dX8_post_0 : decode cX8_post 0 = .ok (.iload_n 1, 1) := by decide +kernel
theorem dX8_post_1 : decode cX8_post 1 = .ok (.invokestatic 120, 3) := by decide +kernel
theorem dX8_post_4 : decode cX8_post 4 = .ok (.ifCond .eq 14, 3) := by decide +kernel
theorem dX8_post_7 : decode cX8_post 7 = .ok (.iload_n 2, 1) := by decide +kernel
theorem dX8_post_8 : decode cX8_post 8 = .ok (.iconst 0, 1) := by decide +kernel
theorem dX8_post_9 : decode cX8_post 9 = .ok (.sipush 999, 3) := by decide +kernel
theorem dX8_post_12 : decode cX8_post 12 = .ok (.invokestatic 109, 3) := by decide +kernel
theorem dX8_post_15 : decode cX8_post 15 = .ok (.ifCond .ne 5, 3) := by decide +kernel
theorem dX8_post_18 : decode cX8_post 18 = .ok (.iconst (-1), 1) := by decide +kernel
theorem dX8_post_19 : decode cX8_post 19 = .ok (.ireturn, 1) := by decide +kernel
theorem dX8_post_20 : decode cX8_post 20 = .ok (.iconst 0, 1) := by decide +kernel
theorem dX8_post_21 : decode cX8_post 21 = .ok (.istore_n 3, 1) := by decide +kernel
theorem dX8_post_22 : decode cX8_post 22 = .ok (.iload_n 3, 1) := by decide +kernel
theorem dX8_post_23 : decode cX8_post 23 = .ok (.bipush 12, 2) := by decide +kernel
theorem dX8_post_25 : decode cX8_post 25 = .ok (.if_icmp .ge 26, 3) := by decide +kernel
theorem dX8_post_28 : decode cX8_post 28 = .ok (.aload_n 0, 1) := by decide +kernel
theorem dX8_post_29 : decode cX8_post 29 = .ok (.getfield 9, 3) := by decide +kernel
theorem dX8_post_32 : decode cX8_post 32 = .ok (.iload_n 1, 1) := by decide +kernel
theorem dX8_post_33 : decode cX8_post 33 = .ok (.iload_n 3, 1) := by decide +kernel
theorem dX8_post_34 : decode cX8_post 34 = .ok (.iadd, 1) := by decide +kernel
theorem dX8_post_35 : decode cX8_post 35 = .ok (.bipush 12, 2) := by decide +kernel
theorem dX8_post_37 : decode cX8_post 37 = .ok (.irem, 1) := by decide +kernel
theorem dX8_post_38 : decode cX8_post 38 = .ok (.iaload, 1) := by decide +kernel
theorem dX8_post_39 : decode cX8_post 39 = .ok (.iload_n 2, 1) := by decide +kernel
theorem dX8_post_40 : decode cX8_post 40 = .ok (.if_icmp .ne 5, 3) := by decide +kernel
theorem dX8_post_43 : decode cX8_post 43 = .ok (.iload_n 3, 1) := by decide +kernel
theorem dX8_post_44 : decode cX8_post 44 = .ok (.ireturn, 1) := by decide +kernel
theorem dX8_post_45 : decode cX8_post 45 = .ok (.iinc 3 1, 3) := by decide +kernel
theorem dX8_post_48 : decode cX8_post 48 = .ok (.goto (-26), 3) := by decide +kernel
theorem dX8_post_51 : decode cX8_post 51 = .ok (.bipush (-2), 2) := by decide +kernel
theorem dX8_post_53 : decode cX8_post 53 = .ok (.ireturn, 1) := by decide +kernel
theorem dX8_nearestTo_0 : decode cX8_nearestTo 0 = .ok (.bipush (-2), 2) := by decide +kernel
theorem dX8_nearestTo_2 : decode cX8_nearestTo 2 = .ok (.istore_n 3, 1) := by decide +kernel
theorem dX8_nearestTo_3 : decode cX8_nearestTo 3 = .ok (.iconst 0, 1) := by decide +kernel
theorem dX8_nearestTo_4 : decode cX8_nearestTo 4 = .ok (.istore 4, 2) := by decide +kernel
theorem dX8_nearestTo_6 : decode cX8_nearestTo 6 = .ok (.iload 4, 2) := by decide +kernel
theorem dX8_nearestTo_8 : decode cX8_nearestTo 8 = .ok (.bipush 12, 2) := by decide +kernel
theorem dX8_nearestTo_10 : decode cX8_nearestTo 10 = .ok (.if_icmp .ge 53, 3) := by decide +kernel
theorem dX8_nearestTo_13 : decode cX8_nearestTo 13 = .ok (.iload_n 2, 1) := by decide +kernel
theorem dX8_nearestTo_14 : decode cX8_nearestTo 14 = .ok (.iload 4, 2) := by decide +kernel
theorem dX8_nearestTo_16 : decode cX8_nearestTo 16 = .ok (.ishr, 1) := by decide +kernel
theorem dX8_nearestTo_17 : decode cX8_nearestTo 17 = .ok (.iconst 1, 1) := by decide +kernel
theorem dX8_nearestTo_18 : decode cX8_nearestTo 18 = .ok (.iand, 1) := by decide +kernel
theorem dX8_nearestTo_19 : decode cX8_nearestTo 19 = .ok (.ifCond .ne 38, 3) := by decide +kernel
theorem dX8_nearestTo_22 : decode cX8_nearestTo 22 = .ok (.iload_n 3, 1) := by decide +kernel
theorem dX8_nearestTo_23 : decode cX8_nearestTo 23 = .ok (.bipush (-2), 2) := by decide +kernel
theorem dX8_nearestTo_25 : decode cX8_nearestTo 25 = .ok (.if_icmp .eq 29, 3) := by decide +kernel
theorem dX8_nearestTo_28 : decode cX8_nearestTo 28 = .ok (.aload_n 0, 1) := by decide +kernel
theorem dX8_nearestTo_29 : decode cX8_nearestTo 29 = .ok (.getfield 9, 3) := by decide +kernel
theorem dX8_nearestTo_32 : decode cX8_nearestTo 32 = .ok (.iload 4, 2) := by decide +kernel
theorem dX8_nearestTo_34 : decode cX8_nearestTo 34 = .ok (.iaload, 1) := by decide +kernel
theorem dX8_nearestTo_35 : decode cX8_nearestTo 35 = .ok (.iload_n 1, 1) := by decide +kernel
theorem dX8_nearestTo_36 : decode cX8_nearestTo 36 = .ok (.isub, 1) := by decide +kernel
theorem dX8_nearestTo_37 : decode cX8_nearestTo 37 = .ok (.invokestatic 302, 3) := by decide +kernel
theorem dX8_nearestTo_40 : decode cX8_nearestTo 40 = .ok (.aload_n 0, 1) := by decide +kernel
theorem dX8_nearestTo_41 : decode cX8_nearestTo 41 = .ok (.getfield 9, 3) := by decide +kernel
theorem dX8_nearestTo_44 : decode cX8_nearestTo 44 = .ok (.iload_n 3, 1) := by decide +kernel
theorem dX8_nearestTo_45 : decode cX8_nearestTo 45 = .ok (.iaload, 1) := by decide +kernel
theorem dX8_nearestTo_46 : decode cX8_nearestTo 46 = .ok (.iload_n 1, 1) := by decide +kernel
theorem dX8_nearestTo_47 : decode cX8_nearestTo 47 = .ok (.isub, 1) := by decide +kernel
theorem dX8_nearestTo_48 : decode cX8_nearestTo 48 = .ok (.invokestatic 302, 3) := by decide +kernel
theorem dX8_nearestTo_51 : decode cX8_nearestTo 51 = .ok (.if_icmp .ge 6, 3) := by decide +kernel
theorem dX8_nearestTo_54 : decode cX8_nearestTo 54 = .ok (.iload 4, 2) := by decide +kernel
theorem dX8_nearestTo_56 : decode cX8_nearestTo 56 = .ok (.istore_n 3, 1) := by decide +kernel
theorem dX8_nearestTo_57 : decode cX8_nearestTo 57 = .ok (.iinc 4 1, 3) := by decide +kernel
theorem dX8_nearestTo_60 : decode cX8_nearestTo 60 = .ok (.goto (-54), 3) := by decide +kernel
theorem dX8_nearestTo_63 : decode cX8_nearestTo 63 = .ok (.iload_n 3, 1) := by decide +kernel
theorem dX8_nearestTo_64 : decode cX8_nearestTo 64 = .ok (.ireturn, 1) := by decide +kernel
theorem dX8_nearest_0 : decode cX8_nearest 0 = .ok (.iload_n 1, 1) := by decide +kernel
theorem dX8_nearest_1 : decode cX8_nearest 1 = .ok (.iconst 0, 1) := by decide +kernel
theorem dX8_nearest_2 : decode cX8_nearest 2 = .ok (.sipush 999, 3) := by decide +kernel
theorem dX8_nearest_5 : decode cX8_nearest 5 = .ok (.invokestatic 109, 3) := by decide +kernel
theorem dX8_nearest_8 : decode cX8_nearest 8 = .ok (.ifCond .eq 12, 3) := by decide +kernel
theorem dX8_nearest_11 : decode cX8_nearest 11 = .ok (.aload_n 0, 1) := by decide +kernel
theorem dX8_nearest_12 : decode cX8_nearest 12 = .ok (.iload_n 1, 1) := by decide +kernel
theorem dX8_nearest_13 : decode cX8_nearest 13 = .ok (.iconst 0, 1) := by decide +kernel
theorem dX8_nearest_14 : decode cX8_nearest 14 = .ok (.invokevirtual 305, 3) := by decide +kernel
theorem dX8_nearest_17 : decode cX8_nearest 17 = .ok (.goto 4, 3) := by decide +kernel
theorem dX8_nearest_20 : decode cX8_nearest 20 = .ok (.iconst (-1), 1) := by decide +kernel
theorem dX8_nearest_21 : decode cX8_nearest 21 = .ok (.ireturn, 1) := by decide +kernel
theorem dX8_chosen_0 : decode cX8_chosen 0 = .ok (.aload_n 0, 1) := by decide +kernel
theorem dX8_chosen_1 : decode cX8_chosen 1 = .ok (.iload_n 1, 1) := by decide +kernel
theorem dX8_chosen_2 : decode cX8_chosen 2 = .ok (.invokevirtual 124, 3) := by decide +kernel
theorem dX8_chosen_5 : decode cX8_chosen 5 = .ok (.ifCond .ne 5, 3) := by decide +kernel
theorem dX8_chosen_8 : decode cX8_chosen 8 = .ok (.iconst (-1), 1) := by decide +kernel
theorem dX8_chosen_9 : decode cX8_chosen 9 = .ok (.ireturn, 1) := by decide +kernel
theorem dX8_chosen_10 : decode cX8_chosen 10 = .ok (.iconst 0, 1) := by decide +kernel
theorem dX8_chosen_11 : decode cX8_chosen 11 = .ok (.istore_n 2, 1) := by decide +kernel
theorem dX8_chosen_12 : decode cX8_chosen 12 = .ok (.iconst 0, 1) := by decide +kernel
theorem dX8_chosen_13 : decode cX8_chosen 13 = .ok (.istore_n 3, 1) := by decide +kernel
theorem dX8_chosen_14 : decode cX8_chosen 14 = .ok (.iload_n 3, 1) := by decide +kernel
theorem dX8_chosen_15 : decode cX8_chosen 15 = .ok (.aload_n 0, 1) := by decide +kernel
theorem dX8_chosen_16 : decode cX8_chosen 16 = .ok (.getfield 113, 3) := by decide +kernel
theorem dX8_chosen_19 : decode cX8_chosen 19 = .ok (.if_icmp .ge 40, 3) := by decide +kernel
theorem dX8_chosen_22 : decode cX8_chosen 22 = .ok (.aload_n 0, 1) := by decide +kernel
theorem dX8_chosen_23 : decode cX8_chosen 23 = .ok (.getfield 106, 3) := by decide +kernel
theorem dX8_chosen_26 : decode cX8_chosen 26 = .ok (.iload_n 3, 1) := by decide +kernel
theorem dX8_chosen_27 : decode cX8_chosen 27 = .ok (.aload_n 0, 1) := by decide +kernel
theorem dX8_chosen_28 : decode cX8_chosen 28 = .ok (.bipush 9, 2) := by decide +kernel
theorem dX8_chosen_30 : decode cX8_chosen 30 = .ok (.aload_n 0, 1) := by decide +kernel
theorem dX8_chosen_31 : decode cX8_chosen 31 = .ok (.getfield 18, 3) := by decide +kernel
theorem dX8_chosen_34 : decode cX8_chosen 34 = .ok (.iload_n 3, 1) := by decide +kernel
theorem dX8_chosen_35 : decode cX8_chosen 35 = .ok (.iaload, 1) := by decide +kernel
theorem dX8_chosen_36 : decode cX8_chosen 36 = .ok (.imul, 1) := by decide +kernel
theorem dX8_chosen_37 : decode cX8_chosen 37 = .ok (.iload_n 2, 1) := by decide +kernel
theorem dX8_chosen_38 : decode cX8_chosen 38 = .ok (.invokevirtual 305, 3) := by decide +kernel
theorem dX8_chosen_41 : decode cX8_chosen 41 = .ok (.iastore, 1) := by decide +kernel
theorem dX8_chosen_42 : decode cX8_chosen 42 = .ok (.iload_n 2, 1) := by decide +kernel
theorem dX8_chosen_43 : decode cX8_chosen 43 = .ok (.iconst 1, 1) := by decide +kernel
theorem dX8_chosen_44 : decode cX8_chosen 44 = .ok (.aload_n 0, 1) := by decide +kernel
theorem dX8_chosen_45 : decode cX8_chosen 45 = .ok (.getfield 106, 3) := by decide +kernel
theorem dX8_chosen_48 : decode cX8_chosen 48 = .ok (.iload_n 3, 1) := by decide +kernel
theorem dX8_chosen_49 : decode cX8_chosen 49 = .ok (.iaload, 1) := by decide +kernel
theorem dX8_chosen_50 : decode cX8_chosen 50 = .ok (.ishl, 1) := by decide +kernel
theorem dX8_chosen_51 : decode cX8_chosen 51 = .ok (.ior, 1) := by decide +kernel
theorem dX8_chosen_52 : decode cX8_chosen 52 = .ok (.istore_n 2, 1) := by decide +kernel
theorem dX8_chosen_53 : decode cX8_chosen 53 = .ok (.iinc 3 1, 3) := by decide +kernel
theorem dX8_chosen_56 : decode cX8_chosen 56 = .ok (.goto (-42), 3) := by decide +kernel
theorem dX8_chosen_59 : decode cX8_chosen 59 = .ok (.aload_n 0, 1) := by decide +kernel
theorem dX8_chosen_60 : decode cX8_chosen 60 = .ok (.getfield 106, 3) := by decide +kernel
theorem dX8_chosen_63 : decode cX8_chosen 63 = .ok (.iload_n 1, 1) := by decide +kernel
theorem dX8_chosen_64 : decode cX8_chosen 64 = .ok (.iaload, 1) := by decide +kernel
theorem dX8_chosen_65 : decode cX8_chosen 65 = .ok (.ireturn, 1) := by decide +kernel
theorem dX8_noRows_0 : decode cX8_noRows 0 = .ok (.iload_n 1, 1) := by decide +kernel
theorem dX8_noRows_1 : decode cX8_noRows 1 = .ok (.ifCond .lt 23, 3) := by decide +kernel
theorem dX8_noRows_4 : decode cX8_noRows 4 = .ok (.iload_n 1, 1) := by decide +kernel
theorem dX8_noRows_5 : decode cX8_noRows 5 = .ok (.bipush 10, 2) := by decide +kernel
theorem dX8_noRows_7 : decode cX8_noRows 7 = .ok (.idiv, 1) := by decide +kernel
theorem dX8_noRows_8 : decode cX8_noRows 8 = .ok (.invokestatic 137, 3) := by decide +kernel
theorem dX8_noRows_11 : decode cX8_noRows 11 = .ok (.ifCond .eq 13, 3) := by decide +kernel
theorem dX8_noRows_14 : decode cX8_noRows 14 = .ok (.iload_n 1, 1) := by decide +kernel
theorem dX8_noRows_15 : decode cX8_noRows 15 = .ok (.bipush 10, 2) := by decide +kernel
theorem dX8_noRows_17 : decode cX8_noRows 17 = .ok (.irem, 1) := by decide +kernel
theorem dX8_noRows_18 : decode cX8_noRows 18 = .ok (.invokestatic 137, 3) := by decide +kernel
theorem dX8_noRows_21 : decode cX8_noRows 21 = .ok (.ifCond .ne 5, 3) := by decide +kernel
theorem dX8_noRows_24 : decode cX8_noRows 24 = .ok (.iconst (-1), 1) := by decide +kernel
theorem dX8_noRows_25 : decode cX8_noRows 25 = .ok (.ireturn, 1) := by decide +kernel
theorem dX8_noRows_26 : decode cX8_noRows 26 = .ok (.aload_n 0, 1) := by decide +kernel
theorem dX8_noRows_27 : decode cX8_noRows 27 = .ok (.iload_n 1, 1) := by decide +kernel
theorem dX8_noRows_28 : decode cX8_noRows 28 = .ok (.bipush 10, 2) := by decide +kernel
theorem dX8_noRows_30 : decode cX8_noRows 30 = .ok (.idiv, 1) := by decide +kernel
theorem dX8_noRows_31 : decode cX8_noRows 31 = .ok (.invokevirtual 263, 3) := by decide +kernel
theorem dX8_noRows_34 : decode cX8_noRows 34 = .ok (.istore_n 2, 1) := by decide +kernel
theorem dX8_noRows_35 : decode cX8_noRows 35 = .ok (.iload_n 2, 1) := by decide +kernel
theorem dX8_noRows_36 : decode cX8_noRows 36 = .ok (.ifCond .ge 7, 3) := by decide +kernel
theorem dX8_noRows_39 : decode cX8_noRows 39 = .ok (.iload_n 2, 1) := by decide +kernel
theorem dX8_noRows_40 : decode cX8_noRows 40 = .ok (.goto 11, 3) := by decide +kernel
theorem dX8_noRows_43 : decode cX8_noRows 43 = .ok (.aload_n 0, 1) := by decide +kernel
theorem dX8_noRows_44 : decode cX8_noRows 44 = .ok (.iload_n 1, 1) := by decide +kernel
theorem dX8_noRows_45 : decode cX8_noRows 45 = .ok (.bipush 10, 2) := by decide +kernel
theorem dX8_noRows_47 : decode cX8_noRows 47 = .ok (.irem, 1) := by decide +kernel
theorem dX8_noRows_48 : decode cX8_noRows 48 = .ok (.invokevirtual 263, 3) := by decide +kernel
theorem dX8_noRows_51 : decode cX8_noRows 51 = .ok (.ireturn, 1) := by decide +kernel
theorem dX8_unlike_0 : decode cX8_unlike 0 = .ok (.iload_n 1, 1) := by decide +kernel
theorem dX8_unlike_1 : decode cX8_unlike 1 = .ok (.bipush 10, 2) := by decide +kernel
theorem dX8_unlike_3 : decode cX8_unlike 3 = .ok (.idiv, 1) := by decide +kernel
theorem dX8_unlike_4 : decode cX8_unlike 4 = .ok (.istore_n 3, 1) := by decide +kernel
theorem dX8_unlike_5 : decode cX8_unlike 5 = .ok (.iload_n 1, 1) := by decide +kernel
theorem dX8_unlike_6 : decode cX8_unlike 6 = .ok (.bipush 10, 2) := by decide +kernel
theorem dX8_unlike_8 : decode cX8_unlike 8 = .ok (.irem, 1) := by decide +kernel
theorem dX8_unlike_9 : decode cX8_unlike 9 = .ok (.istore 4, 2) := by decide +kernel
theorem dX8_unlike_11 : decode cX8_unlike 11 = .ok (.aload_n 0, 1) := by decide +kernel
theorem dX8_unlike_12 : decode cX8_unlike 12 = .ok (.aload_n 0, 1) := by decide +kernel
theorem dX8_unlike_13 : decode cX8_unlike 13 = .ok (.getfield 97, 3) := by decide +kernel
theorem dX8_unlike_16 : decode cX8_unlike 16 = .ok (.invokevirtual 266, 3) := by decide +kernel
theorem dX8_unlike_19 : decode cX8_unlike 19 = .ok (.aload_n 0, 1) := by decide +kernel
theorem dX8_unlike_20 : decode cX8_unlike 20 = .ok (.iload_n 3, 1) := by decide +kernel
theorem dX8_unlike_21 : decode cX8_unlike 21 = .ok (.invokevirtual 257, 3) := by decide +kernel
theorem dX8_unlike_24 : decode cX8_unlike 24 = .ok (.istore 5, 2) := by decide +kernel
theorem dX8_unlike_26 : decode cX8_unlike 26 = .ok (.bipush (-2), 2) := by decide +kernel
theorem dX8_unlike_28 : decode cX8_unlike 28 = .ok (.istore 6, 2) := by decide +kernel
theorem dX8_unlike_30 : decode cX8_unlike 30 = .ok (.iconst 0, 1) := by decide +kernel
theorem dX8_unlike_31 : decode cX8_unlike 31 = .ok (.istore 7, 2) := by decide +kernel
theorem dX8_unlike_33 : decode cX8_unlike 33 = .ok (.iload 7, 2) := by decide +kernel
theorem dX8_unlike_35 : decode cX8_unlike 35 = .ok (.aload_n 0, 1) := by decide +kernel
theorem dX8_unlike_36 : decode cX8_unlike 36 = .ok (.getfield 90, 3) := by decide +kernel
theorem dX8_unlike_39 : decode cX8_unlike 39 = .ok (.iload 4, 2) := by decide +kernel
theorem dX8_unlike_41 : decode cX8_unlike 41 = .ok (.iaload, 1) := by decide +kernel
theorem dX8_unlike_42 : decode cX8_unlike 42 = .ok (.if_icmp .ge 85, 3) := by decide +kernel
theorem dX8_unlike_45 : decode cX8_unlike 45 = .ok (.iload 6, 2) := by decide +kernel
theorem dX8_unlike_47 : decode cX8_unlike 47 = .ok (.bipush (-2), 2) := by decide +kernel
theorem dX8_unlike_49 : decode cX8_unlike 49 = .ok (.if_icmp .ne 78, 3) := by decide +kernel
theorem dX8_unlike_52 : decode cX8_unlike 52 = .ok (.iload 7, 2) := by decide +kernel
theorem dX8_unlike_54 : decode cX8_unlike 54 = .ok (.ifCond .le 39, 3) := by decide +kernel
theorem dX8_unlike_57 : decode cX8_unlike 57 = .ok (.iload 7, 2) := by decide +kernel
theorem dX8_unlike_59 : decode cX8_unlike 59 = .ok (.iload 5, 2) := by decide +kernel
theorem dX8_unlike_61 : decode cX8_unlike 61 = .ok (.if_icmp .gt 32, 3) := by decide +kernel
theorem dX8_unlike_64 : decode cX8_unlike 64 = .ok (.aload_n 0, 1) := by decide +kernel
theorem dX8_unlike_65 : decode cX8_unlike 65 = .ok (.aload_n 0, 1) := by decide +kernel
theorem dX8_unlike_66 : decode cX8_unlike 66 = .ok (.iload_n 3, 1) := by decide +kernel
theorem dX8_unlike_67 : decode cX8_unlike 67 = .ok (.iload 7, 2) := by decide +kernel
theorem dX8_unlike_69 : decode cX8_unlike 69 = .ok (.iconst 1, 1) := by decide +kernel
theorem dX8_unlike_70 : decode cX8_unlike 70 = .ok (.isub, 1) := by decide +kernel
theorem dX8_unlike_71 : decode cX8_unlike 71 = .ok (.invokevirtual 142, 3) := by decide +kernel
theorem dX8_unlike_74 : decode cX8_unlike 74 = .ok (.bipush 12, 2) := by decide +kernel
theorem dX8_unlike_76 : decode cX8_unlike 76 = .ok (.idiv, 1) := by decide +kernel
theorem dX8_unlike_77 : decode cX8_unlike 77 = .ok (.aload_n 0, 1) := by decide +kernel
theorem dX8_unlike_78 : decode cX8_unlike 78 = .ok (.iload_n 3, 1) := by decide +kernel
theorem dX8_unlike_79 : decode cX8_unlike 79 = .ok (.iload 7, 2) := by decide +kernel
theorem dX8_unlike_81 : decode cX8_unlike 81 = .ok (.iconst 1, 1) := by decide +kernel
theorem dX8_unlike_82 : decode cX8_unlike 82 = .ok (.isub, 1) := by decide +kernel
theorem dX8_unlike_83 : decode cX8_unlike 83 = .ok (.invokevirtual 142, 3) := by decide +kernel
theorem dX8_unlike_86 : decode cX8_unlike 86 = .ok (.bipush 12, 2) := by decide +kernel
theorem dX8_unlike_88 : decode cX8_unlike 88 = .ok (.irem, 1) := by decide +kernel
theorem dX8_unlike_89 : decode cX8_unlike 89 = .ok (.invokevirtual 260, 3) := by decide +kernel
theorem dX8_unlike_92 : decode cX8_unlike 92 = .ok (.pop, 1) := by decide +kernel
theorem dX8_unlike_93 : decode cX8_unlike 93 = .ok (.iload 7, 2) := by decide +kernel
theorem dX8_unlike_95 : decode cX8_unlike 95 = .ok (.iload 5, 2) := by decide +kernel
theorem dX8_unlike_97 : decode cX8_unlike 97 = .ok (.if_icmp .gt 20, 3) := by decide +kernel
theorem dX8_unlike_100 : decode cX8_unlike 100 = .ok (.aload_n 0, 1) := by decide +kernel
theorem dX8_unlike_101 : decode cX8_unlike 101 = .ok (.getfield 9, 3) := by decide +kernel
theorem dX8_unlike_104 : decode cX8_unlike 104 = .ok (.iload_n 2, 1) := by decide +kernel
theorem dX8_unlike_105 : decode cX8_unlike 105 = .ok (.iaload, 1) := by decide +kernel
theorem dX8_unlike_106 : decode cX8_unlike 106 = .ok (.aload_n 0, 1) := by decide +kernel
theorem dX8_unlike_107 : decode cX8_unlike 107 = .ok (.iload 4, 2) := by decide +kernel
theorem dX8_unlike_109 : decode cX8_unlike 109 = .ok (.iload 7, 2) := by decide +kernel
theorem dX8_unlike_111 : decode cX8_unlike 111 = .ok (.invokevirtual 142, 3) := by decide +kernel
theorem dX8_unlike_114 : decode cX8_unlike 114 = .ok (.if_icmp .eq 7, 3) := by decide +kernel
theorem dX8_unlike_117 : decode cX8_unlike 117 = .ok (.iload 7, 2) := by decide +kernel
theorem dX8_unlike_119 : decode cX8_unlike 119 = .ok (.istore 6, 2) := by decide +kernel
theorem dX8_unlike_121 : decode cX8_unlike 121 = .ok (.iinc 7 1, 3) := by decide +kernel
theorem dX8_unlike_124 : decode cX8_unlike 124 = .ok (.goto (-91), 3) := by decide +kernel
theorem dX8_unlike_127 : decode cX8_unlike 127 = .ok (.aload_n 0, 1) := by decide +kernel
theorem dX8_unlike_128 : decode cX8_unlike 128 = .ok (.aload_n 0, 1) := by decide +kernel
theorem dX8_unlike_129 : decode cX8_unlike 129 = .ok (.getfield 97, 3) := by decide +kernel
theorem dX8_unlike_132 : decode cX8_unlike 132 = .ok (.invokevirtual 273, 3) := by decide +kernel
theorem dX8_unlike_135 : decode cX8_unlike 135 = .ok (.iload 6, 2) := by decide +kernel
theorem dX8_unlike_137 : decode cX8_unlike 137 = .ok (.ireturn, 1) := by decide +kernel
theorem dX8_judge_0 : decode cX8_judge 0 = .ok (.aload_n 0, 1) := by decide +kernel
theorem dX8_judge_1 : decode cX8_judge 1 = .ok (.iload_n 1, 1) := by decide +kernel
theorem dX8_judge_2 : decode cX8_judge 2 = .ok (.invokevirtual 308, 3) := by decide +kernel
theorem dX8_judge_5 : decode cX8_judge 5 = .ok (.istore_n 3, 1) := by decide +kernel
theorem dX8_judge_6 : decode cX8_judge 6 = .ok (.iload_n 3, 1) := by decide +kernel
theorem dX8_judge_7 : decode cX8_judge 7 = .ok (.iconst (-1), 1) := by decide +kernel
theorem dX8_judge_8 : decode cX8_judge 8 = .ok (.if_icmp .eq 10, 3) := by decide +kernel
theorem dX8_judge_11 : decode cX8_judge 11 = .ok (.iload_n 2, 1) := by decide +kernel
theorem dX8_judge_12 : decode cX8_judge 12 = .ok (.invokestatic 120, 3) := by decide +kernel
theorem dX8_judge_15 : decode cX8_judge 15 = .ok (.ifCond .ne 5, 3) := by decide +kernel
theorem dX8_judge_18 : decode cX8_judge 18 = .ok (.iconst (-1), 1) := by decide +kernel
theorem dX8_judge_19 : decode cX8_judge 19 = .ok (.ireturn, 1) := by decide +kernel
theorem dX8_judge_20 : decode cX8_judge 20 = .ok (.iload_n 3, 1) := by decide +kernel
theorem dX8_judge_21 : decode cX8_judge 21 = .ok (.ifCond .ge 7, 3) := by decide +kernel
theorem dX8_judge_24 : decode cX8_judge 24 = .ok (.iload_n 3, 1) := by decide +kernel
theorem dX8_judge_25 : decode cX8_judge 25 = .ok (.goto 9, 3) := by decide +kernel
theorem dX8_judge_28 : decode cX8_judge 28 = .ok (.aload_n 0, 1) := by decide +kernel
theorem dX8_judge_29 : decode cX8_judge 29 = .ok (.iload_n 1, 1) := by decide +kernel
theorem dX8_judge_30 : decode cX8_judge 30 = .ok (.iload_n 2, 1) := by decide +kernel
theorem dX8_judge_31 : decode cX8_judge 31 = .ok (.invokevirtual 311, 3) := by decide +kernel
theorem dX8_judge_34 : decode cX8_judge 34 = .ok (.ireturn, 1) := by decide +kernel
theorem dX8_fits_0 : decode cX8_fits 0 = .ok (.aload_n 0, 1) := by decide +kernel
theorem dX8_fits_1 : decode cX8_fits 1 = .ok (.iload_n 1, 1) := by decide +kernel
theorem dX8_fits_2 : decode cX8_fits 2 = .ok (.invokevirtual 308, 3) := by decide +kernel
theorem dX8_fits_5 : decode cX8_fits 5 = .ok (.istore 5, 2) := by decide +kernel
theorem dX8_fits_7 : decode cX8_fits 7 = .ok (.iload 5, 2) := by decide +kernel
theorem dX8_fits_9 : decode cX8_fits 9 = .ok (.iconst (-1), 1) := by decide +kernel
theorem dX8_fits_10 : decode cX8_fits 10 = .ok (.if_icmp .eq 45, 3) := by decide +kernel
theorem dX8_fits_13 : decode cX8_fits 13 = .ok (.iload_n 2, 1) := by decide +kernel
theorem dX8_fits_14 : decode cX8_fits 14 = .ok (.invokestatic 120, 3) := by decide +kernel
theorem dX8_fits_17 : decode cX8_fits 17 = .ok (.ifCond .eq 38, 3) := by decide +kernel
theorem dX8_fits_20 : decode cX8_fits 20 = .ok (.iload 4, 2) := by decide +kernel
theorem dX8_fits_22 : decode cX8_fits 22 = .ok (.iconst 0, 1) := by decide +kernel
theorem dX8_fits_23 : decode cX8_fits 23 = .ok (.iconst 3, 1) := by decide +kernel
theorem dX8_fits_24 : decode cX8_fits 24 = .ok (.invokestatic 109, 3) := by decide +kernel
theorem dX8_fits_27 : decode cX8_fits 27 = .ok (.ifCond .eq 28, 3) := by decide +kernel
theorem dX8_fits_30 : decode cX8_fits 30 = .ok (.iload 4, 2) := by decide +kernel
theorem dX8_fits_32 : decode cX8_fits 32 = .ok (.iconst 2, 1) := by decide +kernel
theorem dX8_fits_33 : decode cX8_fits 33 = .ok (.if_icmp .ge 14, 3) := by decide +kernel
theorem dX8_fits_36 : decode cX8_fits 36 = .ok (.aload_n 0, 1) := by decide +kernel
theorem dX8_fits_37 : decode cX8_fits 37 = .ok (.iload_n 3, 1) := by decide +kernel
theorem dX8_fits_38 : decode cX8_fits 38 = .ok (.invokevirtual 124, 3) := by decide +kernel
theorem dX8_fits_41 : decode cX8_fits 41 = .ok (.ifCond .eq 14, 3) := by decide +kernel
theorem dX8_fits_44 : decode cX8_fits 44 = .ok (.goto 13, 3) := by decide +kernel
theorem dX8_fits_47 : decode cX8_fits 47 = .ok (.aload_n 0, 1) := by decide +kernel
theorem dX8_fits_48 : decode cX8_fits 48 = .ok (.iload_n 3, 1) := by decide +kernel
theorem dX8_fits_49 : decode cX8_fits 49 = .ok (.invokevirtual 146, 3) := by decide +kernel
theorem dX8_fits_52 : decode cX8_fits 52 = .ok (.ifCond .ne 5, 3) := by decide +kernel
theorem dX8_fits_55 : decode cX8_fits 55 = .ok (.iconst (-1), 1) := by decide +kernel
theorem dX8_fits_56 : decode cX8_fits 56 = .ok (.ireturn, 1) := by decide +kernel
theorem dX8_fits_57 : decode cX8_fits 57 = .ok (.iload 5, 2) := by decide +kernel
theorem dX8_fits_59 : decode cX8_fits 59 = .ok (.ifCond .ge 6, 3) := by decide +kernel
theorem dX8_fits_62 : decode cX8_fits 62 = .ok (.iload 5, 2) := by decide +kernel
theorem dX8_fits_64 : decode cX8_fits 64 = .ok (.ireturn, 1) := by decide +kernel
theorem dX8_fits_65 : decode cX8_fits 65 = .ok (.iload 4, 2) := by decide +kernel
theorem dX8_fits_67 : decode cX8_fits 67 = .ok (.iconst 2, 1) := by decide +kernel
theorem dX8_fits_68 : decode cX8_fits 68 = .ok (.if_icmp .ge 7, 3) := by decide +kernel
theorem dX8_fits_71 : decode cX8_fits 71 = .ok (.iconst 2, 1) := by decide +kernel
theorem dX8_fits_72 : decode cX8_fits 72 = .ok (.goto 4, 3) := by decide +kernel
theorem dX8_fits_75 : decode cX8_fits 75 = .ok (.iconst 3, 1) := by decide +kernel
theorem dX8_fits_76 : decode cX8_fits 76 = .ok (.istore 6, 2) := by decide +kernel
theorem dX8_fits_78 : decode cX8_fits 78 = .ok (.aload_n 0, 1) := by decide +kernel
theorem dX8_fits_79 : decode cX8_fits 79 = .ok (.iload_n 3, 1) := by decide +kernel
theorem dX8_fits_80 : decode cX8_fits 80 = .ok (.iload 6, 2) := by decide +kernel
theorem dX8_fits_82 : decode cX8_fits 82 = .ok (.invokevirtual 157, 3) := by decide +kernel
theorem dX8_fits_85 : decode cX8_fits 85 = .ok (.istore 7, 2) := by decide +kernel
theorem dX8_fits_87 : decode cX8_fits 87 = .ok (.iconst 0, 1) := by decide +kernel
theorem dX8_fits_88 : decode cX8_fits 88 = .ok (.istore 8, 2) := by decide +kernel
theorem dX8_fits_90 : decode cX8_fits 90 = .ok (.bipush (-2), 2) := by decide +kernel
theorem dX8_fits_92 : decode cX8_fits 92 = .ok (.istore 9, 2) := by decide +kernel
theorem dX8_fits_94 : decode cX8_fits 94 = .ok (.iload 4, 2) := by decide +kernel
theorem dX8_fits_96 : decode cX8_fits 96 = .ok (.iconst 2, 1) := by decide +kernel
theorem dX8_fits_97 : decode cX8_fits 97 = .ok (.if_icmp .ge 8, 3) := by decide +kernel
theorem dX8_fits_100 : decode cX8_fits 100 = .ok (.bipush 12, 2) := by decide +kernel
theorem dX8_fits_102 : decode cX8_fits 102 = .ok (.goto 5, 3) := by decide +kernel
theorem dX8_fits_105 : decode cX8_fits 105 = .ok (.bipush 9, 2) := by decide +kernel
theorem dX8_fits_107 : decode cX8_fits 107 = .ok (.istore 10, 2) := by decide +kernel
theorem dX8_fits_109 : decode cX8_fits 109 = .ok (.iload 10, 2) := by decide +kernel
theorem dX8_fits_111 : decode cX8_fits 111 = .ok (.iload 4, 2) := by decide +kernel
theorem dX8_fits_113 : decode cX8_fits 113 = .ok (.iconst 2, 1) := by decide +kernel
theorem dX8_fits_114 : decode cX8_fits 114 = .ok (.if_icmp .ge 7, 3) := by decide +kernel
theorem dX8_fits_117 : decode cX8_fits 117 = .ok (.iconst 0, 1) := by decide +kernel
theorem dX8_fits_118 : decode cX8_fits 118 = .ok (.goto 4, 3) := by decide +kernel
theorem dX8_fits_121 : decode cX8_fits 121 = .ok (.iconst 1, 1) := by decide +kernel
theorem dX8_fits_122 : decode cX8_fits 122 = .ok (.if_icmp .lt 39, 3) := by decide +kernel
theorem dX8_fits_125 : decode cX8_fits 125 = .ok (.aload_n 0, 1) := by decide +kernel
theorem dX8_fits_126 : decode cX8_fits 126 = .ok (.iload_n 3, 1) := by decide +kernel
theorem dX8_fits_127 : decode cX8_fits 127 = .ok (.iload 6, 2) := by decide +kernel
theorem dX8_fits_129 : decode cX8_fits 129 = .ok (.iload 10, 2) := by decide +kernel
theorem dX8_fits_131 : decode cX8_fits 131 = .ok (.invokevirtual 160, 3) := by decide +kernel
theorem dX8_fits_134 : decode cX8_fits 134 = .ok (.aload_n 0, 1) := by decide +kernel
theorem dX8_fits_135 : decode cX8_fits 135 = .ok (.iload_n 1, 1) := by decide +kernel
theorem dX8_fits_136 : decode cX8_fits 136 = .ok (.iload_n 2, 1) := by decide +kernel
theorem dX8_fits_137 : decode cX8_fits 137 = .ok (.invokevirtual 311, 3) := by decide +kernel
theorem dX8_fits_140 : decode cX8_fits 140 = .ok (.bipush (-2), 2) := by decide +kernel
theorem dX8_fits_142 : decode cX8_fits 142 = .ok (.if_icmp .eq 6, 3) := by decide +kernel
theorem dX8_fits_145 : decode cX8_fits 145 = .ok (.goto 10, 3) := by decide +kernel
theorem dX8_fits_148 : decode cX8_fits 148 = .ok (.iinc 8 1, 3) := by decide +kernel
theorem dX8_fits_151 : decode cX8_fits 151 = .ok (.iload 10, 2) := by decide +kernel
theorem dX8_fits_153 : decode cX8_fits 153 = .ok (.istore 9, 2) := by decide +kernel
theorem dX8_fits_155 : decode cX8_fits 155 = .ok (.iinc 10 (-1), 3) := by decide +kernel
theorem dX8_fits_158 : decode cX8_fits 158 = .ok (.goto (-49), 3) := by decide +kernel
theorem dX8_fits_161 : decode cX8_fits 161 = .ok (.aload_n 0, 1) := by decide +kernel
theorem dX8_fits_162 : decode cX8_fits 162 = .ok (.iload_n 3, 1) := by decide +kernel
theorem dX8_fits_163 : decode cX8_fits 163 = .ok (.iload 6, 2) := by decide +kernel
theorem dX8_fits_165 : decode cX8_fits 165 = .ok (.iload 7, 2) := by decide +kernel
theorem dX8_fits_167 : decode cX8_fits 167 = .ok (.invokevirtual 160, 3) := by decide +kernel
theorem dX8_fits_170 : decode cX8_fits 170 = .ok (.iload 4, 2) := by decide +kernel
theorem dX8_fits_172 : decode cX8_fits 172 = .ok (.iconst 2, 1) := by decide +kernel
theorem dX8_fits_173 : decode cX8_fits 173 = .ok (.irem, 1) := by decide +kernel
theorem dX8_fits_174 : decode cX8_fits 174 = .ok (.ifCond .ne 8, 3) := by decide +kernel
theorem dX8_fits_177 : decode cX8_fits 177 = .ok (.iload 8, 2) := by decide +kernel
theorem dX8_fits_179 : decode cX8_fits 179 = .ok (.goto 5, 3) := by decide +kernel
theorem dX8_fits_182 : decode cX8_fits 182 = .ok (.iload 9, 2) := by decide +kernel
theorem dX8_fits_184 : decode cX8_fits 184 = .ok (.ireturn, 1) := by decide +kernel
theorem dX8_turnFrom_0 : decode cX8_turnFrom 0 = .ok (.iload_n 1, 1) := by decide +kernel
theorem dX8_turnFrom_1 : decode cX8_turnFrom 1 = .ok (.iload_n 2, 1) := by decide +kernel
theorem dX8_turnFrom_2 : decode cX8_turnFrom 2 = .ok (.if_icmp .ne 33, 3) := by decide +kernel
theorem dX8_turnFrom_5 : decode cX8_turnFrom 5 = .ok (.aload_n 0, 1) := by decide +kernel
theorem dX8_turnFrom_6 : decode cX8_turnFrom 6 = .ok (.getfield 9, 3) := by decide +kernel
theorem dX8_turnFrom_9 : decode cX8_turnFrom 9 = .ok (.aload_n 0, 1) := by decide +kernel
theorem dX8_turnFrom_10 : decode cX8_turnFrom 10 = .ok (.getfield 15, 3) := by decide +kernel
theorem dX8_turnFrom_13 : decode cX8_turnFrom 13 = .ok (.iload_n 3, 1) := by decide +kernel
theorem dX8_turnFrom_14 : decode cX8_turnFrom 14 = .ok (.bipush 10, 2) := by decide +kernel
theorem dX8_turnFrom_16 : decode cX8_turnFrom 16 = .ok (.idiv, 1) := by decide +kernel
theorem dX8_turnFrom_17 : decode cX8_turnFrom 17 = .ok (.iaload, 1) := by decide +kernel
theorem dX8_turnFrom_18 : decode cX8_turnFrom 18 = .ok (.iaload, 1) := by decide +kernel
theorem dX8_turnFrom_19 : decode cX8_turnFrom 19 = .ok (.aload_n 0, 1) := by decide +kernel
theorem dX8_turnFrom_20 : decode cX8_turnFrom 20 = .ok (.getfield 9, 3) := by decide +kernel
theorem dX8_turnFrom_23 : decode cX8_turnFrom 23 = .ok (.aload_n 0, 1) := by decide +kernel
theorem dX8_turnFrom_24 : decode cX8_turnFrom 24 = .ok (.getfield 15, 3) := by decide +kernel
theorem dX8_turnFrom_27 : decode cX8_turnFrom 27 = .ok (.iload_n 3, 1) := by decide +kernel
theorem dX8_turnFrom_28 : decode cX8_turnFrom 28 = .ok (.bipush 10, 2) := by decide +kernel
theorem dX8_turnFrom_30 : decode cX8_turnFrom 30 = .ok (.irem, 1) := by decide +kernel
theorem dX8_turnFrom_31 : decode cX8_turnFrom 31 = .ok (.iaload, 1) := by decide +kernel
theorem dX8_turnFrom_32 : decode cX8_turnFrom 32 = .ok (.iaload, 1) := by decide +kernel
theorem dX8_turnFrom_33 : decode cX8_turnFrom 33 = .ok (.isub, 1) := by decide +kernel
theorem dX8_turnFrom_34 : decode cX8_turnFrom 34 = .ok (.ireturn, 1) := by decide +kernel
theorem dX8_turnFrom_35 : decode cX8_turnFrom 35 = .ok (.aload_n 0, 1) := by decide +kernel
theorem dX8_turnFrom_36 : decode cX8_turnFrom 36 = .ok (.iload_n 1, 1) := by decide +kernel
theorem dX8_turnFrom_37 : decode cX8_turnFrom 37 = .ok (.iconst 1, 1) := by decide +kernel
theorem dX8_turnFrom_38 : decode cX8_turnFrom 38 = .ok (.iadd, 1) := by decide +kernel
theorem dX8_turnFrom_39 : decode cX8_turnFrom 39 = .ok (.iload_n 2, 1) := by decide +kernel
theorem dX8_turnFrom_40 : decode cX8_turnFrom 40 = .ok (.iload_n 3, 1) := by decide +kernel
theorem dX8_turnFrom_41 : decode cX8_turnFrom 41 = .ok (.invokevirtual 314, 3) := by decide +kernel
theorem dX8_turnFrom_44 : decode cX8_turnFrom 44 = .ok (.istore 4, 2) := by decide +kernel
theorem dX8_turnFrom_46 : decode cX8_turnFrom 46 = .ok (.iload_n 1, 1) := by decide +kernel
theorem dX8_turnFrom_47 : decode cX8_turnFrom 47 = .ok (.iconst 2, 1) := by decide +kernel
theorem dX8_turnFrom_48 : decode cX8_turnFrom 48 = .ok (.irem, 1) := by decide +kernel
theorem dX8_turnFrom_49 : decode cX8_turnFrom 49 = .ok (.ifCond .ne 10, 3) := by decide +kernel
theorem dX8_turnFrom_52 : decode cX8_turnFrom 52 = .ok (.iload_n 3, 1) := by decide +kernel
theorem dX8_turnFrom_53 : decode cX8_turnFrom 53 = .ok (.bipush 10, 2) := by decide +kernel
theorem dX8_turnFrom_55 : decode cX8_turnFrom 55 = .ok (.idiv, 1) := by decide +kernel
theorem dX8_turnFrom_56 : decode cX8_turnFrom 56 = .ok (.goto 7, 3) := by decide +kernel
theorem dX8_turnFrom_59 : decode cX8_turnFrom 59 = .ok (.iload_n 3, 1) := by decide +kernel
theorem dX8_turnFrom_60 : decode cX8_turnFrom 60 = .ok (.bipush 10, 2) := by decide +kernel
theorem dX8_turnFrom_62 : decode cX8_turnFrom 62 = .ok (.irem, 1) := by decide +kernel
theorem dX8_turnFrom_63 : decode cX8_turnFrom 63 = .ok (.istore 5, 2) := by decide +kernel
theorem dX8_turnFrom_65 : decode cX8_turnFrom 65 = .ok (.iconst 0, 1) := by decide +kernel
theorem dX8_turnFrom_66 : decode cX8_turnFrom 66 = .ok (.istore 6, 2) := by decide +kernel
theorem dX8_turnFrom_68 : decode cX8_turnFrom 68 = .ok (.iload 6, 2) := by decide +kernel
theorem dX8_turnFrom_70 : decode cX8_turnFrom 70 = .ok (.aload_n 0, 1) := by decide +kernel
theorem dX8_turnFrom_71 : decode cX8_turnFrom 71 = .ok (.getfield 117, 3) := by decide +kernel
theorem dX8_turnFrom_74 : decode cX8_turnFrom 74 = .ok (.if_icmp .ge 121, 3) := by decide +kernel
theorem dX8_turnFrom_77 : decode cX8_turnFrom 77 = .ok (.aload_n 0, 1) := by decide +kernel
theorem dX8_turnFrom_78 : decode cX8_turnFrom 78 = .ok (.getfield 24, 3) := by decide +kernel
theorem dX8_turnFrom_81 : decode cX8_turnFrom 81 = .ok (.iload 6, 2) := by decide +kernel
theorem dX8_turnFrom_83 : decode cX8_turnFrom 83 = .ok (.iaload, 1) := by decide +kernel
theorem dX8_turnFrom_84 : decode cX8_turnFrom 84 = .ok (.iload 5, 2) := by decide +kernel
theorem dX8_turnFrom_86 : decode cX8_turnFrom 86 = .ok (.if_icmp .ne 103, 3) := by decide +kernel
theorem dX8_turnFrom_89 : decode cX8_turnFrom 89 = .ok (.aload_n 0, 1) := by decide +kernel
theorem dX8_turnFrom_90 : decode cX8_turnFrom 90 = .ok (.getfield 33, 3) := by decide +kernel
theorem dX8_turnFrom_93 : decode cX8_turnFrom 93 = .ok (.iload 6, 2) := by decide +kernel
theorem dX8_turnFrom_95 : decode cX8_turnFrom 95 = .ok (.iaload, 1) := by decide +kernel
theorem dX8_turnFrom_96 : decode cX8_turnFrom 96 = .ok (.iconst 1, 1) := by decide +kernel
theorem dX8_turnFrom_97 : decode cX8_turnFrom 97 = .ok (.if_icmp .ne 6, 3) := by decide +kernel
theorem dX8_turnFrom_100 : decode cX8_turnFrom 100 = .ok (.goto 89, 3) := by decide +kernel
theorem dX8_turnFrom_103 : decode cX8_turnFrom 103 = .ok (.aload_n 0, 1) := by decide +kernel
theorem dX8_turnFrom_104 : decode cX8_turnFrom 104 = .ok (.getfield 9, 3) := by decide +kernel
theorem dX8_turnFrom_107 : decode cX8_turnFrom 107 = .ok (.aload_n 0, 1) := by decide +kernel
theorem dX8_turnFrom_108 : decode cX8_turnFrom 108 = .ok (.getfield 15, 3) := by decide +kernel
theorem dX8_turnFrom_111 : decode cX8_turnFrom 111 = .ok (.iload 5, 2) := by decide +kernel
theorem dX8_turnFrom_113 : decode cX8_turnFrom 113 = .ok (.iaload, 1) := by decide +kernel
theorem dX8_turnFrom_114 : decode cX8_turnFrom 114 = .ok (.iaload, 1) := by decide +kernel
theorem dX8_turnFrom_115 : decode cX8_turnFrom 115 = .ok (.istore 7, 2) := by decide +kernel
theorem dX8_turnFrom_117 : decode cX8_turnFrom 117 = .ok (.aload_n 0, 1) := by decide +kernel
theorem dX8_turnFrom_118 : decode cX8_turnFrom 118 = .ok (.iload 6, 2) := by decide +kernel
theorem dX8_turnFrom_120 : decode cX8_turnFrom 120 = .ok (.aload_n 0, 1) := by decide +kernel
theorem dX8_turnFrom_121 : decode cX8_turnFrom 121 = .ok (.getfield 15, 3) := by decide +kernel
theorem dX8_turnFrom_124 : decode cX8_turnFrom 124 = .ok (.iload 5, 2) := by decide +kernel
theorem dX8_turnFrom_126 : decode cX8_turnFrom 126 = .ok (.iaload, 1) := by decide +kernel
theorem dX8_turnFrom_127 : decode cX8_turnFrom 127 = .ok (.invokevirtual 260, 3) := by decide +kernel
theorem dX8_turnFrom_130 : decode cX8_turnFrom 130 = .ok (.pop, 1) := by decide +kernel
theorem dX8_turnFrom_131 : decode cX8_turnFrom 131 = .ok (.aload_n 0, 1) := by decide +kernel
theorem dX8_turnFrom_132 : decode cX8_turnFrom 132 = .ok (.iload_n 1, 1) := by decide +kernel
theorem dX8_turnFrom_133 : decode cX8_turnFrom 133 = .ok (.iconst 1, 1) := by decide +kernel
theorem dX8_turnFrom_134 : decode cX8_turnFrom 134 = .ok (.iadd, 1) := by decide +kernel
theorem dX8_turnFrom_135 : decode cX8_turnFrom 135 = .ok (.iload_n 2, 1) := by decide +kernel
theorem dX8_turnFrom_136 : decode cX8_turnFrom 136 = .ok (.iload_n 3, 1) := by decide +kernel
theorem dX8_turnFrom_137 : decode cX8_turnFrom 137 = .ok (.invokevirtual 314, 3) := by decide +kernel
theorem dX8_turnFrom_140 : decode cX8_turnFrom 140 = .ok (.istore 8, 2) := by decide +kernel
theorem dX8_turnFrom_142 : decode cX8_turnFrom 142 = .ok (.aload_n 0, 1) := by decide +kernel
theorem dX8_turnFrom_143 : decode cX8_turnFrom 143 = .ok (.getfield 33, 3) := by decide +kernel
theorem dX8_turnFrom_146 : decode cX8_turnFrom 146 = .ok (.iload 6, 2) := by decide +kernel
theorem dX8_turnFrom_148 : decode cX8_turnFrom 148 = .ok (.iconst 0, 1) := by decide +kernel
theorem dX8_turnFrom_149 : decode cX8_turnFrom 149 = .ok (.iastore, 1) := by decide +kernel
theorem dX8_turnFrom_150 : decode cX8_turnFrom 150 = .ok (.aload_n 0, 1) := by decide +kernel
theorem dX8_turnFrom_151 : decode cX8_turnFrom 151 = .ok (.getfield 9, 3) := by decide +kernel
theorem dX8_turnFrom_154 : decode cX8_turnFrom 154 = .ok (.aload_n 0, 1) := by decide +kernel
theorem dX8_turnFrom_155 : decode cX8_turnFrom 155 = .ok (.getfield 15, 3) := by decide +kernel
theorem dX8_turnFrom_158 : decode cX8_turnFrom 158 = .ok (.iload 5, 2) := by decide +kernel
theorem dX8_turnFrom_160 : decode cX8_turnFrom 160 = .ok (.iaload, 1) := by decide +kernel
theorem dX8_turnFrom_161 : decode cX8_turnFrom 161 = .ok (.iload 7, 2) := by decide +kernel
theorem dX8_turnFrom_163 : decode cX8_turnFrom 163 = .ok (.iastore, 1) := by decide +kernel
theorem dX8_turnFrom_164 : decode cX8_turnFrom 164 = .ok (.iload_n 1, 1) := by decide +kernel
theorem dX8_turnFrom_165 : decode cX8_turnFrom 165 = .ok (.iconst 2, 1) := by decide +kernel
theorem dX8_turnFrom_166 : decode cX8_turnFrom 166 = .ok (.irem, 1) := by decide +kernel
theorem dX8_turnFrom_167 : decode cX8_turnFrom 167 = .ok (.ifCond .ne 13, 3) := by decide +kernel
theorem dX8_turnFrom_170 : decode cX8_turnFrom 170 = .ok (.iload 4, 2) := by decide +kernel
theorem dX8_turnFrom_172 : decode cX8_turnFrom 172 = .ok (.iload 8, 2) := by decide +kernel
theorem dX8_turnFrom_174 : decode cX8_turnFrom 174 = .ok (.invokestatic 234, 3) := by decide +kernel
theorem dX8_turnFrom_177 : decode cX8_turnFrom 177 = .ok (.goto 10, 3) := by decide +kernel
theorem dX8_turnFrom_180 : decode cX8_turnFrom 180 = .ok (.iload 4, 2) := by decide +kernel
theorem dX8_turnFrom_182 : decode cX8_turnFrom 182 = .ok (.iload 8, 2) := by decide +kernel
theorem dX8_turnFrom_184 : decode cX8_turnFrom 184 = .ok (.invokestatic 251, 3) := by decide +kernel
theorem dX8_turnFrom_187 : decode cX8_turnFrom 187 = .ok (.istore 4, 2) := by decide +kernel
theorem dX8_turnFrom_189 : decode cX8_turnFrom 189 = .ok (.iinc 6 1, 3) := by decide +kernel
theorem dX8_turnFrom_192 : decode cX8_turnFrom 192 = .ok (.goto (-124), 3) := by decide +kernel
theorem dX8_turnFrom_195 : decode cX8_turnFrom 195 = .ok (.iload 4, 2) := by decide +kernel
theorem dX8_turnFrom_197 : decode cX8_turnFrom 197 = .ok (.ireturn, 1) := by decide +kernel
theorem dX8_byTurns_0 : decode cX8_byTurns 0 = .ok (.iload_n 1, 1) := by decide +kernel
theorem dX8_byTurns_1 : decode cX8_byTurns 1 = .ok (.ifCond .lt 54, 3) := by decide +kernel
theorem dX8_byTurns_4 : decode cX8_byTurns 4 = .ok (.aload_n 0, 1) := by decide +kernel
theorem dX8_byTurns_5 : decode cX8_byTurns 5 = .ok (.iload_n 1, 1) := by decide +kernel
theorem dX8_byTurns_6 : decode cX8_byTurns 6 = .ok (.bipush 10, 2) := by decide +kernel
theorem dX8_byTurns_8 : decode cX8_byTurns 8 = .ok (.idiv, 1) := by decide +kernel
theorem dX8_byTurns_9 : decode cX8_byTurns 9 = .ok (.invokevirtual 124, 3) := by decide +kernel
theorem dX8_byTurns_12 : decode cX8_byTurns 12 = .ok (.ifCond .eq 43, 3) := by decide +kernel
theorem dX8_byTurns_15 : decode cX8_byTurns 15 = .ok (.aload_n 0, 1) := by decide +kernel
theorem dX8_byTurns_16 : decode cX8_byTurns 16 = .ok (.iload_n 1, 1) := by decide +kernel
theorem dX8_byTurns_17 : decode cX8_byTurns 17 = .ok (.bipush 10, 2) := by decide +kernel
theorem dX8_byTurns_19 : decode cX8_byTurns 19 = .ok (.irem, 1) := by decide +kernel
theorem dX8_byTurns_20 : decode cX8_byTurns 20 = .ok (.invokevirtual 124, 3) := by decide +kernel
theorem dX8_byTurns_23 : decode cX8_byTurns 23 = .ok (.ifCond .eq 32, 3) := by decide +kernel
theorem dX8_byTurns_26 : decode cX8_byTurns 26 = .ok (.iload_n 1, 1) := by decide +kernel
theorem dX8_byTurns_27 : decode cX8_byTurns 27 = .ok (.bipush 10, 2) := by decide +kernel
theorem dX8_byTurns_29 : decode cX8_byTurns 29 = .ok (.idiv, 1) := by decide +kernel
theorem dX8_byTurns_30 : decode cX8_byTurns 30 = .ok (.iload_n 1, 1) := by decide +kernel
theorem dX8_byTurns_31 : decode cX8_byTurns 31 = .ok (.bipush 10, 2) := by decide +kernel
theorem dX8_byTurns_33 : decode cX8_byTurns 33 = .ok (.irem, 1) := by decide +kernel
theorem dX8_byTurns_34 : decode cX8_byTurns 34 = .ok (.if_icmp .eq 21, 3) := by decide +kernel
theorem dX8_byTurns_37 : decode cX8_byTurns 37 = .ok (.iload_n 2, 1) := by decide +kernel
theorem dX8_byTurns_38 : decode cX8_byTurns 38 = .ok (.iconst 1, 1) := by decide +kernel
theorem dX8_byTurns_39 : decode cX8_byTurns 39 = .ok (.iconst 4, 1) := by decide +kernel
theorem dX8_byTurns_40 : decode cX8_byTurns 40 = .ok (.invokestatic 109, 3) := by decide +kernel
theorem dX8_byTurns_43 : decode cX8_byTurns 43 = .ok (.ifCond .eq 12, 3) := by decide +kernel
theorem dX8_byTurns_46 : decode cX8_byTurns 46 = .ok (.iload_n 3, 1) := by decide +kernel
theorem dX8_byTurns_47 : decode cX8_byTurns 47 = .ok (.iconst 0, 1) := by decide +kernel
theorem dX8_byTurns_48 : decode cX8_byTurns 48 = .ok (.iconst 1, 1) := by decide +kernel
theorem dX8_byTurns_49 : decode cX8_byTurns 49 = .ok (.invokestatic 109, 3) := by decide +kernel
theorem dX8_byTurns_52 : decode cX8_byTurns 52 = .ok (.ifCond .ne 6, 3) := by decide +kernel
theorem dX8_byTurns_55 : decode cX8_byTurns 55 = .ok (.ldc 156, 2) := by decide +kernel
theorem dX8_byTurns_57 : decode cX8_byTurns 57 = .ok (.ireturn, 1) := by decide +kernel
theorem dX8_byTurns_58 : decode cX8_byTurns 58 = .ok (.iload_n 1, 1) := by decide +kernel
theorem dX8_byTurns_59 : decode cX8_byTurns 59 = .ok (.bipush 10, 2) := by decide +kernel
theorem dX8_byTurns_61 : decode cX8_byTurns 61 = .ok (.idiv, 1) := by decide +kernel
theorem dX8_byTurns_62 : decode cX8_byTurns 62 = .ok (.istore 4, 2) := by decide +kernel
theorem dX8_byTurns_64 : decode cX8_byTurns 64 = .ok (.aload_n 0, 1) := by decide +kernel
theorem dX8_byTurns_65 : decode cX8_byTurns 65 = .ok (.iconst 1, 1) := by decide +kernel
theorem dX8_byTurns_66 : decode cX8_byTurns 66 = .ok (.iload_n 2, 1) := by decide +kernel
theorem dX8_byTurns_67 : decode cX8_byTurns 67 = .ok (.iload_n 1, 1) := by decide +kernel
theorem dX8_byTurns_68 : decode cX8_byTurns 68 = .ok (.invokevirtual 314, 3) := by decide +kernel
theorem dX8_byTurns_71 : decode cX8_byTurns 71 = .ok (.istore 5, 2) := by decide +kernel
theorem dX8_byTurns_73 : decode cX8_byTurns 73 = .ok (.bipush 12, 2) := by decide +kernel
theorem dX8_byTurns_75 : decode cX8_byTurns 75 = .ok (.istore 6, 2) := by decide +kernel
theorem dX8_byTurns_77 : decode cX8_byTurns 77 = .ok (.iconst 0, 1) := by decide +kernel
theorem dX8_byTurns_78 : decode cX8_byTurns 78 = .ok (.istore 7, 2) := by decide +kernel
theorem dX8_byTurns_80 : decode cX8_byTurns 80 = .ok (.iload 7, 2) := by decide +kernel
theorem dX8_byTurns_82 : decode cX8_byTurns 82 = .ok (.aload_n 0, 1) := by decide +kernel
theorem dX8_byTurns_83 : decode cX8_byTurns 83 = .ok (.getfield 117, 3) := by decide +kernel
theorem dX8_byTurns_86 : decode cX8_byTurns 86 = .ok (.if_icmp .ge 112, 3) := by decide +kernel
theorem dX8_byTurns_89 : decode cX8_byTurns 89 = .ok (.aload_n 0, 1) := by decide +kernel
theorem dX8_byTurns_90 : decode cX8_byTurns 90 = .ok (.getfield 24, 3) := by decide +kernel
theorem dX8_byTurns_93 : decode cX8_byTurns 93 = .ok (.iload 7, 2) := by decide +kernel
theorem dX8_byTurns_95 : decode cX8_byTurns 95 = .ok (.iaload, 1) := by decide +kernel
theorem dX8_byTurns_96 : decode cX8_byTurns 96 = .ok (.iload 4, 2) := by decide +kernel
theorem dX8_byTurns_98 : decode cX8_byTurns 98 = .ok (.if_icmp .ne 94, 3) := by decide +kernel
theorem dX8_byTurns_101 : decode cX8_byTurns 101 = .ok (.aload_n 0, 1) := by decide +kernel
theorem dX8_byTurns_102 : decode cX8_byTurns 102 = .ok (.getfield 33, 3) := by decide +kernel
theorem dX8_byTurns_105 : decode cX8_byTurns 105 = .ok (.iload 7, 2) := by decide +kernel
theorem dX8_byTurns_107 : decode cX8_byTurns 107 = .ok (.iaload, 1) := by decide +kernel
theorem dX8_byTurns_108 : decode cX8_byTurns 108 = .ok (.iconst 1, 1) := by decide +kernel
theorem dX8_byTurns_109 : decode cX8_byTurns 109 = .ok (.if_icmp .ne 6, 3) := by decide +kernel
theorem dX8_byTurns_112 : decode cX8_byTurns 112 = .ok (.goto 80, 3) := by decide +kernel
theorem dX8_byTurns_115 : decode cX8_byTurns 115 = .ok (.aload_n 0, 1) := by decide +kernel
theorem dX8_byTurns_116 : decode cX8_byTurns 116 = .ok (.getfield 9, 3) := by decide +kernel
theorem dX8_byTurns_119 : decode cX8_byTurns 119 = .ok (.aload_n 0, 1) := by decide +kernel
theorem dX8_byTurns_120 : decode cX8_byTurns 120 = .ok (.getfield 15, 3) := by decide +kernel
theorem dX8_byTurns_123 : decode cX8_byTurns 123 = .ok (.iload 4, 2) := by decide +kernel
theorem dX8_byTurns_125 : decode cX8_byTurns 125 = .ok (.iaload, 1) := by decide +kernel
theorem dX8_byTurns_126 : decode cX8_byTurns 126 = .ok (.iaload, 1) := by decide +kernel
theorem dX8_byTurns_127 : decode cX8_byTurns 127 = .ok (.istore 8, 2) := by decide +kernel
theorem dX8_byTurns_129 : decode cX8_byTurns 129 = .ok (.aload_n 0, 1) := by decide +kernel
theorem dX8_byTurns_130 : decode cX8_byTurns 130 = .ok (.iload 7, 2) := by decide +kernel
theorem dX8_byTurns_132 : decode cX8_byTurns 132 = .ok (.aload_n 0, 1) := by decide +kernel
theorem dX8_byTurns_133 : decode cX8_byTurns 133 = .ok (.getfield 15, 3) := by decide +kernel
theorem dX8_byTurns_136 : decode cX8_byTurns 136 = .ok (.iload 4, 2) := by decide +kernel
theorem dX8_byTurns_138 : decode cX8_byTurns 138 = .ok (.iaload, 1) := by decide +kernel
theorem dX8_byTurns_139 : decode cX8_byTurns 139 = .ok (.invokevirtual 260, 3) := by decide +kernel
theorem dX8_byTurns_142 : decode cX8_byTurns 142 = .ok (.pop, 1) := by decide +kernel
theorem dX8_byTurns_143 : decode cX8_byTurns 143 = .ok (.aload_n 0, 1) := by decide +kernel
theorem dX8_byTurns_144 : decode cX8_byTurns 144 = .ok (.iconst 1, 1) := by decide +kernel
theorem dX8_byTurns_145 : decode cX8_byTurns 145 = .ok (.iload_n 2, 1) := by decide +kernel
theorem dX8_byTurns_146 : decode cX8_byTurns 146 = .ok (.iload_n 1, 1) := by decide +kernel
theorem dX8_byTurns_147 : decode cX8_byTurns 147 = .ok (.invokevirtual 314, 3) := by decide +kernel
theorem dX8_byTurns_150 : decode cX8_byTurns 150 = .ok (.istore 9, 2) := by decide +kernel
theorem dX8_byTurns_152 : decode cX8_byTurns 152 = .ok (.aload_n 0, 1) := by decide +kernel
theorem dX8_byTurns_153 : decode cX8_byTurns 153 = .ok (.getfield 33, 3) := by decide +kernel
theorem dX8_byTurns_156 : decode cX8_byTurns 156 = .ok (.iload 7, 2) := by decide +kernel
theorem dX8_byTurns_158 : decode cX8_byTurns 158 = .ok (.iconst 0, 1) := by decide +kernel
theorem dX8_byTurns_159 : decode cX8_byTurns 159 = .ok (.iastore, 1) := by decide +kernel
theorem dX8_byTurns_160 : decode cX8_byTurns 160 = .ok (.aload_n 0, 1) := by decide +kernel
theorem dX8_byTurns_161 : decode cX8_byTurns 161 = .ok (.getfield 9, 3) := by decide +kernel
theorem dX8_byTurns_164 : decode cX8_byTurns 164 = .ok (.aload_n 0, 1) := by decide +kernel
theorem dX8_byTurns_165 : decode cX8_byTurns 165 = .ok (.getfield 15, 3) := by decide +kernel
theorem dX8_byTurns_168 : decode cX8_byTurns 168 = .ok (.iload 4, 2) := by decide +kernel
theorem dX8_byTurns_170 : decode cX8_byTurns 170 = .ok (.iaload, 1) := by decide +kernel
theorem dX8_byTurns_171 : decode cX8_byTurns 171 = .ok (.iload 8, 2) := by decide +kernel
theorem dX8_byTurns_173 : decode cX8_byTurns 173 = .ok (.iastore, 1) := by decide +kernel
theorem dX8_byTurns_174 : decode cX8_byTurns 174 = .ok (.iload 9, 2) := by decide +kernel
theorem dX8_byTurns_176 : decode cX8_byTurns 176 = .ok (.iload 5, 2) := by decide +kernel
theorem dX8_byTurns_178 : decode cX8_byTurns 178 = .ok (.if_icmp .gt 6, 3) := by decide +kernel
theorem dX8_byTurns_181 : decode cX8_byTurns 181 = .ok (.goto 11, 3) := by decide +kernel
theorem dX8_byTurns_184 : decode cX8_byTurns 184 = .ok (.iload 9, 2) := by decide +kernel
theorem dX8_byTurns_186 : decode cX8_byTurns 186 = .ok (.istore 5, 2) := by decide +kernel
theorem dX8_byTurns_188 : decode cX8_byTurns 188 = .ok (.iload 7, 2) := by decide +kernel
theorem dX8_byTurns_190 : decode cX8_byTurns 190 = .ok (.istore 6, 2) := by decide +kernel
theorem dX8_byTurns_192 : decode cX8_byTurns 192 = .ok (.iinc 7 1, 3) := by decide +kernel
theorem dX8_byTurns_195 : decode cX8_byTurns 195 = .ok (.goto (-115), 3) := by decide +kernel
theorem dX8_byTurns_198 : decode cX8_byTurns 198 = .ok (.iload_n 3, 1) := by decide +kernel
theorem dX8_byTurns_199 : decode cX8_byTurns 199 = .ok (.ifCond .ne 8, 3) := by decide +kernel
theorem dX8_byTurns_202 : decode cX8_byTurns 202 = .ok (.iload 5, 2) := by decide +kernel
theorem dX8_byTurns_204 : decode cX8_byTurns 204 = .ok (.goto 5, 3) := by decide +kernel
theorem dX8_byTurns_207 : decode cX8_byTurns 207 = .ok (.iload 6, 2) := by decide +kernel
theorem dX8_byTurns_209 : decode cX8_byTurns 209 = .ok (.ireturn, 1) := by decide +kernel
theorem dX8_passes_0 : decode cX8_passes 0 = .ok (.aload_n 0, 1) := by decide +kernel
theorem dX8_passes_1 : decode cX8_passes 1 = .ok (.getfield 127, 3) := by decide +kernel
theorem dX8_passes_4 : decode cX8_passes 4 = .ok (.bipush 99, 2) := by decide +kernel
theorem dX8_passes_6 : decode cX8_passes 6 = .ok (.if_icmp .ge 13, 3) := by decide +kernel
theorem dX8_passes_9 : decode cX8_passes 9 = .ok (.aload_n 0, 1) := by decide +kernel
theorem dX8_passes_10 : decode cX8_passes 10 = .ok (.dup, 1) := by decide +kernel
theorem dX8_passes_11 : decode cX8_passes 11 = .ok (.getfield 127, 3) := by decide +kernel
theorem dX8_passes_14 : decode cX8_passes 14 = .ok (.iconst 1, 1) := by decide +kernel
theorem dX8_passes_15 : decode cX8_passes 15 = .ok (.iadd, 1) := by decide +kernel
theorem dX8_passes_16 : decode cX8_passes 16 = .ok (.putfield 127, 3) := by decide +kernel
theorem dX8_passes_19 : decode cX8_passes 19 = .ok (.return_, 1) := by decide +kernel
theorem dX8_drawn_0 : decode cX8_drawn 0 = .ok (.iload_n 2, 1) := by decide +kernel
theorem dX8_drawn_1 : decode cX8_drawn 1 = .ok (.ifCond .lt 41, 3) := by decide +kernel
theorem dX8_drawn_4 : decode cX8_drawn 4 = .ok (.iload_n 2, 1) := by decide +kernel
theorem dX8_drawn_5 : decode cX8_drawn 5 = .ok (.bipush 100, 2) := by decide +kernel
theorem dX8_drawn_7 : decode cX8_drawn 7 = .ok (.idiv, 1) := by decide +kernel
theorem dX8_drawn_8 : decode cX8_drawn 8 = .ok (.iconst 1, 1) := by decide +kernel
theorem dX8_drawn_9 : decode cX8_drawn 9 = .ok (.bipush 30, 2) := by decide +kernel
theorem dX8_drawn_11 : decode cX8_drawn 11 = .ok (.invokestatic 109, 3) := by decide +kernel
theorem dX8_drawn_14 : decode cX8_drawn 14 = .ok (.ifCond .eq 28, 3) := by decide +kernel
theorem dX8_drawn_17 : decode cX8_drawn 17 = .ok (.iload_n 2, 1) := by decide +kernel
theorem dX8_drawn_18 : decode cX8_drawn 18 = .ok (.bipush 100, 2) := by decide +kernel
theorem dX8_drawn_20 : decode cX8_drawn 20 = .ok (.irem, 1) := by decide +kernel
theorem dX8_drawn_21 : decode cX8_drawn 21 = .ok (.iconst 1, 1) := by decide +kernel
theorem dX8_drawn_22 : decode cX8_drawn 22 = .ok (.bipush 40, 2) := by decide +kernel
theorem dX8_drawn_24 : decode cX8_drawn 24 = .ok (.invokestatic 109, 3) := by decide +kernel
theorem dX8_drawn_27 : decode cX8_drawn 27 = .ok (.ifCond .eq 15, 3) := by decide +kernel
theorem dX8_drawn_30 : decode cX8_drawn 30 = .ok (.iload_n 3, 1) := by decide +kernel
theorem dX8_drawn_31 : decode cX8_drawn 31 = .ok (.iconst (-1), 1) := by decide +kernel
theorem dX8_drawn_32 : decode cX8_drawn 32 = .ok (.if_icmp .eq 12, 3) := by decide +kernel
theorem dX8_drawn_35 : decode cX8_drawn 35 = .ok (.iload_n 3, 1) := by decide +kernel
theorem dX8_drawn_36 : decode cX8_drawn 36 = .ok (.invokestatic 120, 3) := by decide +kernel
theorem dX8_drawn_39 : decode cX8_drawn 39 = .ok (.ifCond .ne 5, 3) := by decide +kernel
theorem dX8_drawn_42 : decode cX8_drawn 42 = .ok (.iconst (-1), 1) := by decide +kernel
theorem dX8_drawn_43 : decode cX8_drawn 43 = .ok (.ireturn, 1) := by decide +kernel
theorem dX8_drawn_44 : decode cX8_drawn 44 = .ok (.aload_n 0, 1) := by decide +kernel
theorem dX8_drawn_45 : decode cX8_drawn 45 = .ok (.aload_n 0, 1) := by decide +kernel
theorem dX8_drawn_46 : decode cX8_drawn 46 = .ok (.getfield 100, 3) := by decide +kernel
theorem dX8_drawn_49 : decode cX8_drawn 49 = .ok (.invokevirtual 266, 3) := by decide +kernel
theorem dX8_drawn_52 : decode cX8_drawn 52 = .ok (.iload_n 1, 1) := by decide +kernel
theorem dX8_drawn_53 : decode cX8_drawn 53 = .ok (.istore 4, 2) := by decide +kernel
theorem dX8_drawn_55 : decode cX8_drawn 55 = .ok (.iconst 0, 1) := by decide +kernel
theorem dX8_drawn_56 : decode cX8_drawn 56 = .ok (.istore 5, 2) := by decide +kernel
theorem dX8_drawn_58 : decode cX8_drawn 58 = .ok (.iconst 0, 1) := by decide +kernel
theorem dX8_drawn_59 : decode cX8_drawn 59 = .ok (.istore 6, 2) := by decide +kernel
theorem dX8_drawn_61 : decode cX8_drawn 61 = .ok (.iload 6, 2) := by decide +kernel
theorem dX8_drawn_63 : decode cX8_drawn 63 = .ok (.iload_n 2, 1) := by decide +kernel
theorem dX8_drawn_64 : decode cX8_drawn 64 = .ok (.bipush 100, 2) := by decide +kernel
theorem dX8_drawn_66 : decode cX8_drawn 66 = .ok (.idiv, 1) := by decide +kernel
theorem dX8_drawn_67 : decode cX8_drawn 67 = .ok (.if_icmp .ge 141, 3) := by decide +kernel
theorem dX8_drawn_70 : decode cX8_drawn 70 = .ok (.iconst 0, 1) := by decide +kernel
theorem dX8_drawn_71 : decode cX8_drawn 71 = .ok (.istore 7, 2) := by decide +kernel
theorem dX8_drawn_73 : decode cX8_drawn 73 = .ok (.iload 7, 2) := by decide +kernel
theorem dX8_drawn_75 : decode cX8_drawn 75 = .ok (.iload_n 2, 1) := by decide +kernel
theorem dX8_drawn_76 : decode cX8_drawn 76 = .ok (.bipush 100, 2) := by decide +kernel
theorem dX8_drawn_78 : decode cX8_drawn 78 = .ok (.irem, 1) := by decide +kernel
theorem dX8_drawn_79 : decode cX8_drawn 79 = .ok (.if_icmp .ge 92, 3) := by decide +kernel
theorem dX8_drawn_82 : decode cX8_drawn 82 = .ok (.iload 4, 2) := by decide +kernel
theorem dX8_drawn_84 : decode cX8_drawn 84 = .ok (.ldc_w 317, 3) := by decide +kernel
theorem dX8_drawn_87 : decode cX8_drawn 87 = .ok (.imul, 1) := by decide +kernel
theorem dX8_drawn_88 : decode cX8_drawn 88 = .ok (.sipush 12345, 3) := by decide +kernel
theorem dX8_drawn_91 : decode cX8_drawn 91 = .ok (.iadd, 1) := by decide +kernel
theorem dX8_drawn_92 : decode cX8_drawn 92 = .ok (.istore 4, 2) := by decide +kernel
theorem dX8_drawn_94 : decode cX8_drawn 94 = .ok (.aload_n 0, 1) := by decide +kernel
theorem dX8_drawn_95 : decode cX8_drawn 95 = .ok (.getfield 117, 3) := by decide +kernel
theorem dX8_drawn_98 : decode cX8_drawn 98 = .ok (.ifCond .le 63, 3) := by decide +kernel
theorem dX8_drawn_101 : decode cX8_drawn 101 = .ok (.iload 4, 2) := by decide +kernel
theorem dX8_drawn_103 : decode cX8_drawn 103 = .ok (.bipush 8, 2) := by decide +kernel
theorem dX8_drawn_105 : decode cX8_drawn 105 = .ok (.iushr, 1) := by decide +kernel
theorem dX8_drawn_106 : decode cX8_drawn 106 = .ok (.aload_n 0, 1) := by decide +kernel
theorem dX8_drawn_107 : decode cX8_drawn 107 = .ok (.getfield 117, 3) := by decide +kernel
theorem dX8_drawn_110 : decode cX8_drawn 110 = .ok (.irem, 1) := by decide +kernel
theorem dX8_drawn_111 : decode cX8_drawn 111 = .ok (.istore 8, 2) := by decide +kernel
theorem dX8_drawn_113 : decode cX8_drawn 113 = .ok (.aload_n 0, 1) := by decide +kernel
theorem dX8_drawn_114 : decode cX8_drawn 114 = .ok (.getfield 33, 3) := by decide +kernel
theorem dX8_drawn_117 : decode cX8_drawn 117 = .ok (.iload 8, 2) := by decide +kernel
theorem dX8_drawn_119 : decode cX8_drawn 119 = .ok (.iaload, 1) := by decide +kernel
theorem dX8_drawn_120 : decode cX8_drawn 120 = .ok (.iconst 1, 1) := by decide +kernel
theorem dX8_drawn_121 : decode cX8_drawn 121 = .ok (.if_icmp .ne 25, 3) := by decide +kernel
theorem dX8_drawn_124 : decode cX8_drawn 124 = .ok (.aload_n 0, 1) := by decide +kernel
theorem dX8_drawn_125 : decode cX8_drawn 125 = .ok (.getfield 33, 3) := by decide +kernel
theorem dX8_drawn_128 : decode cX8_drawn 128 = .ok (.iload 8, 2) := by decide +kernel
theorem dX8_drawn_130 : decode cX8_drawn 130 = .ok (.iconst 0, 1) := by decide +kernel
theorem dX8_drawn_131 : decode cX8_drawn 131 = .ok (.iastore, 1) := by decide +kernel
theorem dX8_drawn_132 : decode cX8_drawn 132 = .ok (.aload_n 0, 1) := by decide +kernel
theorem dX8_drawn_133 : decode cX8_drawn 133 = .ok (.getfield 30, 3) := by decide +kernel
theorem dX8_drawn_136 : decode cX8_drawn 136 = .ok (.iload 8, 2) := by decide +kernel
theorem dX8_drawn_138 : decode cX8_drawn 138 = .ok (.aload_n 0, 1) := by decide +kernel
theorem dX8_drawn_139 : decode cX8_drawn 139 = .ok (.getfield 127, 3) := by decide +kernel
theorem dX8_drawn_142 : decode cX8_drawn 142 = .ok (.iastore, 1) := by decide +kernel
theorem dX8_drawn_143 : decode cX8_drawn 143 = .ok (.goto 18, 3) := by decide +kernel
theorem dX8_drawn_146 : decode cX8_drawn 146 = .ok (.aload_n 0, 1) := by decide +kernel
theorem dX8_drawn_147 : decode cX8_drawn 147 = .ok (.iload 8, 2) := by decide +kernel
theorem dX8_drawn_149 : decode cX8_drawn 149 = .ok (.iload 4, 2) := by decide +kernel
theorem dX8_drawn_151 : decode cX8_drawn 151 = .ok (.bipush 16, 2) := by decide +kernel
theorem dX8_drawn_153 : decode cX8_drawn 153 = .ok (.iushr, 1) := by decide +kernel
theorem dX8_drawn_154 : decode cX8_drawn 154 = .ok (.bipush 12, 2) := by decide +kernel
theorem dX8_drawn_156 : decode cX8_drawn 156 = .ok (.irem, 1) := by decide +kernel
theorem dX8_drawn_157 : decode cX8_drawn 157 = .ok (.invokevirtual 260, 3) := by decide +kernel
theorem dX8_drawn_160 : decode cX8_drawn 160 = .ok (.pop, 1) := by decide +kernel
theorem dX8_drawn_161 : decode cX8_drawn 161 = .ok (.aload_n 0, 1) := by decide +kernel
theorem dX8_drawn_162 : decode cX8_drawn 162 = .ok (.invokevirtual 318, 3) := by decide +kernel
theorem dX8_drawn_165 : decode cX8_drawn 165 = .ok (.iinc 7 1, 3) := by decide +kernel
theorem dX8_drawn_168 : decode cX8_drawn 168 = .ok (.goto (-95), 3) := by decide +kernel
theorem dX8_drawn_171 : decode cX8_drawn 171 = .ok (.iload 5, 2) := by decide +kernel
theorem dX8_drawn_173 : decode cX8_drawn 173 = .ok (.iload_n 3, 1) := by decide +kernel
theorem dX8_drawn_174 : decode cX8_drawn 174 = .ok (.iconst (-1), 1) := by decide +kernel
theorem dX8_drawn_175 : decode cX8_drawn 175 = .ok (.if_icmp .ne 10, 3) := by decide +kernel
theorem dX8_drawn_178 : decode cX8_drawn 178 = .ok (.aload_n 0, 1) := by decide +kernel
theorem dX8_drawn_179 : decode cX8_drawn 179 = .ok (.invokevirtual 279, 3) := by decide +kernel
theorem dX8_drawn_182 : decode cX8_drawn 182 = .ok (.goto 9, 3) := by decide +kernel
theorem dX8_drawn_185 : decode cX8_drawn 185 = .ok (.aload_n 0, 1) := by decide +kernel
theorem dX8_drawn_186 : decode cX8_drawn 186 = .ok (.getfield 9, 3) := by decide +kernel
theorem dX8_drawn_189 : decode cX8_drawn 189 = .ok (.iload_n 3, 1) := by decide +kernel
theorem dX8_drawn_190 : decode cX8_drawn 190 = .ok (.iaload, 1) := by decide +kernel
theorem dX8_drawn_191 : decode cX8_drawn 191 = .ok (.iadd, 1) := by decide +kernel
theorem dX8_drawn_192 : decode cX8_drawn 192 = .ok (.istore 5, 2) := by decide +kernel
theorem dX8_drawn_194 : decode cX8_drawn 194 = .ok (.aload_n 0, 1) := by decide +kernel
theorem dX8_drawn_195 : decode cX8_drawn 195 = .ok (.aload_n 0, 1) := by decide +kernel
theorem dX8_drawn_196 : decode cX8_drawn 196 = .ok (.getfield 100, 3) := by decide +kernel
theorem dX8_drawn_199 : decode cX8_drawn 199 = .ok (.invokevirtual 273, 3) := by decide +kernel
theorem dX8_drawn_202 : decode cX8_drawn 202 = .ok (.iinc 6 1, 3) := by decide +kernel
theorem dX8_drawn_205 : decode cX8_drawn 205 = .ok (.goto (-144), 3) := by decide +kernel
theorem dX8_drawn_208 : decode cX8_drawn 208 = .ok (.iload 5, 2) := by decide +kernel
theorem dX8_drawn_210 : decode cX8_drawn 210 = .ok (.ireturn, 1) := by decide +kernel
theorem dX8_call_0 : decode cX8_call 0 = .ok (.aload_n 0, 1) := by decide +kernel
theorem dX8_call_1 : decode cX8_call 1 = .ok (.iload_n 1, 1) := by decide +kernel
theorem dX8_call_2 : decode cX8_call 2 = .ok (.invokevirtual 146, 3) := by decide +kernel
theorem dX8_call_5 : decode cX8_call 5 = .ok (.ifCond .eq 10, 3) := by decide +kernel
theorem dX8_call_8 : decode cX8_call 8 = .ok (.iload_n 2, 1) := by decide +kernel
theorem dX8_call_9 : decode cX8_call 9 = .ok (.invokestatic 120, 3) := by decide +kernel
theorem dX8_call_12 : decode cX8_call 12 = .ok (.ifCond .ne 5, 3) := by decide +kernel
theorem dX8_call_15 : decode cX8_call 15 = .ok (.iconst (-1), 1) := by decide +kernel
theorem dX8_call_16 : decode cX8_call 16 = .ok (.ireturn, 1) := by decide +kernel
theorem dX8_call_17 : decode cX8_call 17 = .ok (.aload_n 0, 1) := by decide +kernel
theorem dX8_call_18 : decode cX8_call 18 = .ok (.iload_n 1, 1) := by decide +kernel
theorem dX8_call_19 : decode cX8_call 19 = .ok (.iload_n 2, 1) := by decide +kernel
theorem dX8_call_20 : decode cX8_call 20 = .ok (.invokevirtual 260, 3) := by decide +kernel
theorem dX8_call_23 : decode cX8_call 23 = .ok (.istore_n 3, 1) := by decide +kernel
theorem dX8_call_24 : decode cX8_call 24 = .ok (.aload_n 0, 1) := by decide +kernel
theorem dX8_call_25 : decode cX8_call 25 = .ok (.getfield 69, 3) := by decide +kernel
theorem dX8_call_28 : decode cX8_call 28 = .ok (.iload_n 3, 1) := by decide +kernel
theorem dX8_call_29 : decode cX8_call 29 = .ok (.ifCond .le 7, 3) := by decide +kernel
theorem dX8_call_32 : decode cX8_call 32 = .ok (.iconst 0, 1) := by decide +kernel
theorem dX8_call_33 : decode cX8_call 33 = .ok (.goto 4, 3) := by decide +kernel
theorem dX8_call_36 : decode cX8_call 36 = .ok (.iconst 1, 1) := by decide +kernel
theorem dX8_call_37 : decode cX8_call 37 = .ok (.dup2, 1) := by decide +kernel
theorem dX8_call_38 : decode cX8_call 38 = .ok (.iaload, 1) := by decide +kernel
theorem dX8_call_39 : decode cX8_call 39 = .ok (.iconst 1, 1) := by decide +kernel
theorem dX8_call_40 : decode cX8_call 40 = .ok (.iadd, 1) := by decide +kernel
theorem dX8_call_41 : decode cX8_call 41 = .ok (.iastore, 1) := by decide +kernel
theorem dX8_call_42 : decode cX8_call 42 = .ok (.aload_n 0, 1) := by decide +kernel
theorem dX8_call_43 : decode cX8_call 43 = .ok (.getfield 69, 3) := by decide +kernel
theorem dX8_call_46 : decode cX8_call 46 = .ok (.iconst 2, 1) := by decide +kernel
theorem dX8_call_47 : decode cX8_call 47 = .ok (.dup2, 1) := by decide +kernel
theorem dX8_call_48 : decode cX8_call 48 = .ok (.iaload, 1) := by decide +kernel
theorem dX8_call_49 : decode cX8_call 49 = .ok (.iload_n 3, 1) := by decide +kernel
theorem dX8_call_50 : decode cX8_call 50 = .ok (.iadd, 1) := by decide +kernel
theorem dX8_call_51 : decode cX8_call 51 = .ok (.iastore, 1) := by decide +kernel
theorem dX8_call_52 : decode cX8_call 52 = .ok (.iload_n 3, 1) := by decide +kernel
