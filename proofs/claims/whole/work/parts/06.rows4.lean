theorem dX8_call_53 : decode cX8_call 53 = .ok (.ireturn, 1) := by decide +kernel
theorem dX8_again_0 : decode cX8_again 0 = .ok (.aload_n 0, 1) := by decide +kernel
theorem dX8_again_1 : decode cX8_again 1 = .ok (.iload_n 1, 1) := by decide +kernel
theorem dX8_again_2 : decode cX8_again 2 = .ok (.invokevirtual 146, 3) := by decide +kernel
theorem dX8_again_5 : decode cX8_again 5 = .ok (.ifCond .ne 5, 3) := by decide +kernel
theorem dX8_again_8 : decode cX8_again 8 = .ok (.iconst (-1), 1) := by decide +kernel
theorem dX8_again_9 : decode cX8_again 9 = .ok (.ireturn, 1) := by decide +kernel
theorem dX8_again_10 : decode cX8_again 10 = .ok (.aload_n 0, 1) := by decide +kernel
theorem dX8_again_11 : decode cX8_again 11 = .ok (.getfield 33, 3) := by decide +kernel
theorem dX8_again_14 : decode cX8_again 14 = .ok (.iload_n 1, 1) := by decide +kernel
theorem dX8_again_15 : decode cX8_again 15 = .ok (.iaload, 1) := by decide +kernel
theorem dX8_again_16 : decode cX8_again 16 = .ok (.ifCond .ne 6, 3) := by decide +kernel
theorem dX8_again_19 : decode cX8_again 19 = .ok (.bipush (-5), 2) := by decide +kernel
theorem dX8_again_21 : decode cX8_again 21 = .ok (.ireturn, 1) := by decide +kernel
theorem dX8_again_22 : decode cX8_again 22 = .ok (.aload_n 0, 1) := by decide +kernel
theorem dX8_again_23 : decode cX8_again 23 = .ok (.getfield 30, 3) := by decide +kernel
theorem dX8_again_26 : decode cX8_again 26 = .ok (.iload_n 1, 1) := by decide +kernel
theorem dX8_again_27 : decode cX8_again 27 = .ok (.iaload, 1) := by decide +kernel
theorem dX8_again_28 : decode cX8_again 28 = .ok (.istore_n 2, 1) := by decide +kernel
theorem dX8_again_29 : decode cX8_again 29 = .ok (.aload_n 0, 1) := by decide +kernel
theorem dX8_again_30 : decode cX8_again 30 = .ok (.getfield 33, 3) := by decide +kernel
theorem dX8_again_33 : decode cX8_again 33 = .ok (.iload_n 1, 1) := by decide +kernel
theorem dX8_again_34 : decode cX8_again 34 = .ok (.iconst 0, 1) := by decide +kernel
theorem dX8_again_35 : decode cX8_again 35 = .ok (.iastore, 1) := by decide +kernel
theorem dX8_again_36 : decode cX8_again 36 = .ok (.aload_n 0, 1) := by decide +kernel
theorem dX8_again_37 : decode cX8_again 37 = .ok (.getfield 30, 3) := by decide +kernel
theorem dX8_again_40 : decode cX8_again 40 = .ok (.iload_n 1, 1) := by decide +kernel
theorem dX8_again_41 : decode cX8_again 41 = .ok (.aload_n 0, 1) := by decide +kernel
theorem dX8_again_42 : decode cX8_again 42 = .ok (.getfield 127, 3) := by decide +kernel
theorem dX8_again_45 : decode cX8_again 45 = .ok (.iastore, 1) := by decide +kernel
theorem dX8_again_46 : decode cX8_again 46 = .ok (.aload_n 0, 1) := by decide +kernel
theorem dX8_again_47 : decode cX8_again 47 = .ok (.getfield 69, 3) := by decide +kernel
theorem dX8_again_50 : decode cX8_again 50 = .ok (.iconst 3, 1) := by decide +kernel
theorem dX8_again_51 : decode cX8_again 51 = .ok (.dup2, 1) := by decide +kernel
theorem dX8_again_52 : decode cX8_again 52 = .ok (.iaload, 1) := by decide +kernel
theorem dX8_again_53 : decode cX8_again 53 = .ok (.iconst 1, 1) := by decide +kernel
theorem dX8_again_54 : decode cX8_again 54 = .ok (.iadd, 1) := by decide +kernel
theorem dX8_again_55 : decode cX8_again 55 = .ok (.iastore, 1) := by decide +kernel
theorem dX8_again_56 : decode cX8_again 56 = .ok (.iload_n 2, 1) := by decide +kernel
theorem dX8_again_57 : decode cX8_again 57 = .ok (.ireturn, 1) := by decide +kernel
theorem dX8_days_0 : decode cX8_days 0 = .ok (.iload_n 1, 1) := by decide +kernel
theorem dX8_days_1 : decode cX8_days 1 = .ok (.iconst 1, 1) := by decide +kernel
theorem dX8_days_2 : decode cX8_days 2 = .ok (.bipush 99, 2) := by decide +kernel
theorem dX8_days_4 : decode cX8_days 4 = .ok (.invokestatic 109, 3) := by decide +kernel
theorem dX8_days_7 : decode cX8_days 7 = .ok (.ifCond .ne 5, 3) := by decide +kernel
theorem dX8_days_10 : decode cX8_days 10 = .ok (.iconst (-1), 1) := by decide +kernel
theorem dX8_days_11 : decode cX8_days 11 = .ok (.ireturn, 1) := by decide +kernel
theorem dX8_days_12 : decode cX8_days 12 = .ok (.aload_n 0, 1) := by decide +kernel
theorem dX8_days_13 : decode cX8_days 13 = .ok (.bipush 99, 2) := by decide +kernel
theorem dX8_days_15 : decode cX8_days 15 = .ok (.aload_n 0, 1) := by decide +kernel
theorem dX8_days_16 : decode cX8_days 16 = .ok (.getfield 127, 3) := by decide +kernel
theorem dX8_days_19 : decode cX8_days 19 = .ok (.iload_n 1, 1) := by decide +kernel
theorem dX8_days_20 : decode cX8_days 20 = .ok (.iadd, 1) := by decide +kernel
theorem dX8_days_21 : decode cX8_days 21 = .ok (.invokestatic 251, 3) := by decide +kernel
theorem dX8_days_24 : decode cX8_days 24 = .ok (.putfield 127, 3) := by decide +kernel
theorem dX8_days_27 : decode cX8_days 27 = .ok (.aload_n 0, 1) := by decide +kernel
theorem dX8_days_28 : decode cX8_days 28 = .ok (.getfield 69, 3) := by decide +kernel
theorem dX8_days_31 : decode cX8_days 31 = .ok (.iconst 4, 1) := by decide +kernel
theorem dX8_days_32 : decode cX8_days 32 = .ok (.dup2, 1) := by decide +kernel
theorem dX8_days_33 : decode cX8_days 33 = .ok (.iaload, 1) := by decide +kernel
theorem dX8_days_34 : decode cX8_days 34 = .ok (.iload_n 1, 1) := by decide +kernel
theorem dX8_days_35 : decode cX8_days 35 = .ok (.iadd, 1) := by decide +kernel
theorem dX8_days_36 : decode cX8_days 36 = .ok (.iastore, 1) := by decide +kernel
theorem dX8_days_37 : decode cX8_days 37 = .ok (.aload_n 0, 1) := by decide +kernel
theorem dX8_days_38 : decode cX8_days 38 = .ok (.getfield 127, 3) := by decide +kernel
theorem dX8_days_41 : decode cX8_days 41 = .ok (.ireturn, 1) := by decide +kernel
theorem dX8_slam_0 : decode cX8_slam 0 = .ok (.iload_n 1, 1) := by decide +kernel
theorem dX8_slam_1 : decode cX8_slam 1 = .ok (.invokestatic 120, 3) := by decide +kernel
theorem dX8_slam_4 : decode cX8_slam 4 = .ok (.ifCond .ne 5, 3) := by decide +kernel
theorem dX8_slam_7 : decode cX8_slam 7 = .ok (.iconst (-1), 1) := by decide +kernel
theorem dX8_slam_8 : decode cX8_slam 8 = .ok (.ireturn, 1) := by decide +kernel
theorem dX8_slam_9 : decode cX8_slam 9 = .ok (.aload_n 0, 1) := by decide +kernel
theorem dX8_slam_10 : decode cX8_slam 10 = .ok (.getfield 9, 3) := by decide +kernel
theorem dX8_slam_13 : decode cX8_slam 13 = .ok (.iload_n 1, 1) := by decide +kernel
theorem dX8_slam_14 : decode cX8_slam 14 = .ok (.iconst 0, 1) := by decide +kernel
theorem dX8_slam_15 : decode cX8_slam 15 = .ok (.aload_n 0, 1) := by decide +kernel
theorem dX8_slam_16 : decode cX8_slam 16 = .ok (.getfield 9, 3) := by decide +kernel
theorem dX8_slam_19 : decode cX8_slam 19 = .ok (.iload_n 1, 1) := by decide +kernel
theorem dX8_slam_20 : decode cX8_slam 20 = .ok (.iaload, 1) := by decide +kernel
theorem dX8_slam_21 : decode cX8_slam 21 = .ok (.iconst 1, 1) := by decide +kernel
theorem dX8_slam_22 : decode cX8_slam 22 = .ok (.isub, 1) := by decide +kernel
theorem dX8_slam_23 : decode cX8_slam 23 = .ok (.invokestatic 234, 3) := by decide +kernel
theorem dX8_slam_26 : decode cX8_slam 26 = .ok (.iastore, 1) := by decide +kernel
theorem dX8_slam_27 : decode cX8_slam 27 = .ok (.aload_n 0, 1) := by decide +kernel
theorem dX8_slam_28 : decode cX8_slam 28 = .ok (.getfield 69, 3) := by decide +kernel
theorem dX8_slam_31 : decode cX8_slam 31 = .ok (.iconst 5, 1) := by decide +kernel
theorem dX8_slam_32 : decode cX8_slam 32 = .ok (.dup2, 1) := by decide +kernel
theorem dX8_slam_33 : decode cX8_slam 33 = .ok (.iaload, 1) := by decide +kernel
theorem dX8_slam_34 : decode cX8_slam 34 = .ok (.iconst 1, 1) := by decide +kernel
theorem dX8_slam_35 : decode cX8_slam 35 = .ok (.iadd, 1) := by decide +kernel
theorem dX8_slam_36 : decode cX8_slam 36 = .ok (.iastore, 1) := by decide +kernel
theorem dX8_slam_37 : decode cX8_slam 37 = .ok (.aload_n 0, 1) := by decide +kernel
theorem dX8_slam_38 : decode cX8_slam 38 = .ok (.getfield 9, 3) := by decide +kernel
theorem dX8_slam_41 : decode cX8_slam 41 = .ok (.iload_n 1, 1) := by decide +kernel
theorem dX8_slam_42 : decode cX8_slam 42 = .ok (.iaload, 1) := by decide +kernel
theorem dX8_slam_43 : decode cX8_slam 43 = .ok (.ireturn, 1) := by decide +kernel
theorem dX8_led_0 : decode cX8_led 0 = .ok (.iload_n 1, 1) := by decide +kernel
theorem dX8_led_1 : decode cX8_led 1 = .ok (.iconst 0, 1) := by decide +kernel
theorem dX8_led_2 : decode cX8_led 2 = .ok (.iconst 5, 1) := by decide +kernel
theorem dX8_led_3 : decode cX8_led 3 = .ok (.invokestatic 109, 3) := by decide +kernel
theorem dX8_led_6 : decode cX8_led 6 = .ok (.ifCond .eq 12, 3) := by decide +kernel
theorem dX8_led_9 : decode cX8_led 9 = .ok (.aload_n 0, 1) := by decide +kernel
theorem dX8_led_10 : decode cX8_led 10 = .ok (.getfield 69, 3) := by decide +kernel
theorem dX8_led_13 : decode cX8_led 13 = .ok (.iload_n 1, 1) := by decide +kernel
theorem dX8_led_14 : decode cX8_led 14 = .ok (.iaload, 1) := by decide +kernel
theorem dX8_led_15 : decode cX8_led 15 = .ok (.goto 4, 3) := by decide +kernel
theorem dX8_led_18 : decode cX8_led 18 = .ok (.iconst (-1), 1) := by decide +kernel
theorem dX8_led_19 : decode cX8_led 19 = .ok (.ireturn, 1) := by decide +kernel
theorem dX8_image_0 : decode cX8_image 0 = .ok (.aload_n 0, 1) := by decide +kernel
theorem dX8_image_1 : decode cX8_image 1 = .ok (.iconst 1, 1) := by decide +kernel
theorem dX8_image_2 : decode cX8_image 2 = .ok (.putfield 321, 3) := by decide +kernel
theorem dX8_image_5 : decode cX8_image 5 = .ok (.aload_n 0, 1) := by decide +kernel
theorem dX8_image_6 : decode cX8_image 6 = .ok (.aload_n 0, 1) := by decide +kernel
theorem dX8_image_7 : decode cX8_image 7 = .ok (.getfield 117, 3) := by decide +kernel
theorem dX8_image_10 : decode cX8_image 10 = .ok (.putfield 324, 3) := by decide +kernel
theorem dX8_image_13 : decode cX8_image 13 = .ok (.aload_n 0, 1) := by decide +kernel
theorem dX8_image_14 : decode cX8_image 14 = .ok (.aload_n 0, 1) := by decide +kernel
theorem dX8_image_15 : decode cX8_image 15 = .ok (.getfield 72, 3) := by decide +kernel
theorem dX8_image_18 : decode cX8_image 18 = .ok (.invokevirtual 266, 3) := by decide +kernel
theorem dX8_image_21 : decode cX8_image 21 = .ok (.iconst 0, 1) := by decide +kernel
theorem dX8_image_22 : decode cX8_image 22 = .ok (.istore_n 1, 1) := by decide +kernel
theorem dX8_image_23 : decode cX8_image 23 = .ok (.iload_n 1, 1) := by decide +kernel
theorem dX8_image_24 : decode cX8_image 24 = .ok (.bipush 6, 2) := by decide +kernel
theorem dX8_image_26 : decode cX8_image 26 = .ok (.if_icmp .ge 21, 3) := by decide +kernel
theorem dX8_image_29 : decode cX8_image 29 = .ok (.aload_n 0, 1) := by decide +kernel
theorem dX8_image_30 : decode cX8_image 30 = .ok (.getfield 75, 3) := by decide +kernel
theorem dX8_image_33 : decode cX8_image 33 = .ok (.iload_n 1, 1) := by decide +kernel
theorem dX8_image_34 : decode cX8_image 34 = .ok (.aload_n 0, 1) := by decide +kernel
theorem dX8_image_35 : decode cX8_image 35 = .ok (.getfield 69, 3) := by decide +kernel
theorem dX8_image_38 : decode cX8_image 38 = .ok (.iload_n 1, 1) := by decide +kernel
theorem dX8_image_39 : decode cX8_image 39 = .ok (.iaload, 1) := by decide +kernel
theorem dX8_image_40 : decode cX8_image 40 = .ok (.iastore, 1) := by decide +kernel
theorem dX8_image_41 : decode cX8_image 41 = .ok (.iinc 1 1, 3) := by decide +kernel
theorem dX8_image_44 : decode cX8_image 44 = .ok (.goto (-21), 3) := by decide +kernel
theorem dX8_image_47 : decode cX8_image 47 = .ok (.aload_n 0, 1) := by decide +kernel
theorem dX8_image_48 : decode cX8_image 48 = .ok (.getfield 69, 3) := by decide +kernel
theorem dX8_image_51 : decode cX8_image 51 = .ok (.iconst 0, 1) := by decide +kernel
theorem dX8_image_52 : decode cX8_image 52 = .ok (.iaload, 1) := by decide +kernel
theorem dX8_image_53 : decode cX8_image 53 = .ok (.ireturn, 1) := by decide +kernel
theorem dX8_back_0 : decode cX8_back 0 = .ok (.aload_n 0, 1) := by decide +kernel
theorem dX8_back_1 : decode cX8_back 1 = .ok (.getfield 321, 3) := by decide +kernel
theorem dX8_back_4 : decode cX8_back 4 = .ok (.ifCond .ne 6, 3) := by decide +kernel
theorem dX8_back_7 : decode cX8_back 7 = .ok (.bipush (-5), 2) := by decide +kernel
theorem dX8_back_9 : decode cX8_back 9 = .ok (.ireturn, 1) := by decide +kernel
theorem dX8_back_10 : decode cX8_back 10 = .ok (.iconst 0, 1) := by decide +kernel
theorem dX8_back_11 : decode cX8_back 11 = .ok (.istore_n 1, 1) := by decide +kernel
theorem dX8_back_12 : decode cX8_back 12 = .ok (.iload_n 1, 1) := by decide +kernel
theorem dX8_back_13 : decode cX8_back 13 = .ok (.bipush 12, 2) := by decide +kernel
theorem dX8_back_15 : decode cX8_back 15 = .ok (.if_icmp .ge 21, 3) := by decide +kernel
theorem dX8_back_18 : decode cX8_back 18 = .ok (.aload_n 0, 1) := by decide +kernel
theorem dX8_back_19 : decode cX8_back 19 = .ok (.getfield 9, 3) := by decide +kernel
theorem dX8_back_22 : decode cX8_back 22 = .ok (.iload_n 1, 1) := by decide +kernel
theorem dX8_back_23 : decode cX8_back 23 = .ok (.aload_n 0, 1) := by decide +kernel
theorem dX8_back_24 : decode cX8_back 24 = .ok (.getfield 72, 3) := by decide +kernel
theorem dX8_back_27 : decode cX8_back 27 = .ok (.iload_n 1, 1) := by decide +kernel
theorem dX8_back_28 : decode cX8_back 28 = .ok (.iaload, 1) := by decide +kernel
theorem dX8_back_29 : decode cX8_back 29 = .ok (.iastore, 1) := by decide +kernel
theorem dX8_back_30 : decode cX8_back 30 = .ok (.iinc 1 1, 3) := by decide +kernel
theorem dX8_back_33 : decode cX8_back 33 = .ok (.goto (-21), 3) := by decide +kernel
theorem dX8_back_36 : decode cX8_back 36 = .ok (.iconst 0, 1) := by decide +kernel
theorem dX8_back_37 : decode cX8_back 37 = .ok (.istore_n 1, 1) := by decide +kernel
theorem dX8_back_38 : decode cX8_back 38 = .ok (.iload_n 1, 1) := by decide +kernel
theorem dX8_back_39 : decode cX8_back 39 = .ok (.aload_n 0, 1) := by decide +kernel
theorem dX8_back_40 : decode cX8_back 40 = .ok (.getfield 324, 3) := by decide +kernel
theorem dX8_back_43 : decode cX8_back 43 = .ok (.if_icmp .ge 39, 3) := by decide +kernel
theorem dX8_back_46 : decode cX8_back 46 = .ok (.aload_n 0, 1) := by decide +kernel
theorem dX8_back_47 : decode cX8_back 47 = .ok (.getfield 33, 3) := by decide +kernel
theorem dX8_back_50 : decode cX8_back 50 = .ok (.iload_n 1, 1) := by decide +kernel
theorem dX8_back_51 : decode cX8_back 51 = .ok (.aload_n 0, 1) := by decide +kernel
theorem dX8_back_52 : decode cX8_back 52 = .ok (.getfield 72, 3) := by decide +kernel
theorem dX8_back_55 : decode cX8_back 55 = .ok (.bipush 12, 2) := by decide +kernel
theorem dX8_back_57 : decode cX8_back 57 = .ok (.iload_n 1, 1) := by decide +kernel
theorem dX8_back_58 : decode cX8_back 58 = .ok (.iadd, 1) := by decide +kernel
theorem dX8_back_59 : decode cX8_back 59 = .ok (.iaload, 1) := by decide +kernel
theorem dX8_back_60 : decode cX8_back 60 = .ok (.iastore, 1) := by decide +kernel
theorem dX8_back_61 : decode cX8_back 61 = .ok (.aload_n 0, 1) := by decide +kernel
theorem dX8_back_62 : decode cX8_back 62 = .ok (.getfield 30, 3) := by decide +kernel
theorem dX8_back_65 : decode cX8_back 65 = .ok (.iload_n 1, 1) := by decide +kernel
theorem dX8_back_66 : decode cX8_back 66 = .ok (.aload_n 0, 1) := by decide +kernel
theorem dX8_back_67 : decode cX8_back 67 = .ok (.getfield 72, 3) := by decide +kernel
theorem dX8_back_70 : decode cX8_back 70 = .ok (.bipush 24, 2) := by decide +kernel
theorem dX8_back_72 : decode cX8_back 72 = .ok (.iload_n 1, 1) := by decide +kernel
theorem dX8_back_73 : decode cX8_back 73 = .ok (.iadd, 1) := by decide +kernel
theorem dX8_back_74 : decode cX8_back 74 = .ok (.iaload, 1) := by decide +kernel
theorem dX8_back_75 : decode cX8_back 75 = .ok (.iastore, 1) := by decide +kernel
theorem dX8_back_76 : decode cX8_back 76 = .ok (.iinc 1 1, 3) := by decide +kernel
theorem dX8_back_79 : decode cX8_back 79 = .ok (.goto (-41), 3) := by decide +kernel
theorem dX8_back_82 : decode cX8_back 82 = .ok (.aload_n 0, 1) := by decide +kernel
theorem dX8_back_83 : decode cX8_back 83 = .ok (.aload_n 0, 1) := by decide +kernel
theorem dX8_back_84 : decode cX8_back 84 = .ok (.getfield 72, 3) := by decide +kernel
theorem dX8_back_87 : decode cX8_back 87 = .ok (.bipush 36, 2) := by decide +kernel
theorem dX8_back_89 : decode cX8_back 89 = .ok (.iaload, 1) := by decide +kernel
theorem dX8_back_90 : decode cX8_back 90 = .ok (.putfield 127, 3) := by decide +kernel
theorem dX8_back_93 : decode cX8_back 93 = .ok (.iconst 0, 1) := by decide +kernel
theorem dX8_back_94 : decode cX8_back 94 = .ok (.istore_n 1, 1) := by decide +kernel
theorem dX8_back_95 : decode cX8_back 95 = .ok (.iload_n 1, 1) := by decide +kernel
theorem dX8_back_96 : decode cX8_back 96 = .ok (.bipush 6, 2) := by decide +kernel
theorem dX8_back_98 : decode cX8_back 98 = .ok (.if_icmp .ge 21, 3) := by decide +kernel
theorem dX8_back_101 : decode cX8_back 101 = .ok (.aload_n 0, 1) := by decide +kernel
theorem dX8_back_102 : decode cX8_back 102 = .ok (.getfield 69, 3) := by decide +kernel
theorem dX8_back_105 : decode cX8_back 105 = .ok (.iload_n 1, 1) := by decide +kernel
theorem dX8_back_106 : decode cX8_back 106 = .ok (.aload_n 0, 1) := by decide +kernel
theorem dX8_back_107 : decode cX8_back 107 = .ok (.getfield 75, 3) := by decide +kernel
theorem dX8_back_110 : decode cX8_back 110 = .ok (.iload_n 1, 1) := by decide +kernel
theorem dX8_back_111 : decode cX8_back 111 = .ok (.iaload, 1) := by decide +kernel
theorem dX8_back_112 : decode cX8_back 112 = .ok (.iastore, 1) := by decide +kernel
theorem dX8_back_113 : decode cX8_back 113 = .ok (.iinc 1 1, 3) := by decide +kernel
theorem dX8_back_116 : decode cX8_back 116 = .ok (.goto (-21), 3) := by decide +kernel
theorem dX8_back_119 : decode cX8_back 119 = .ok (.aload_n 0, 1) := by decide +kernel
theorem dX8_back_120 : decode cX8_back 120 = .ok (.getfield 69, 3) := by decide +kernel
theorem dX8_back_123 : decode cX8_back 123 = .ok (.iconst 0, 1) := by decide +kernel
theorem dX8_back_124 : decode cX8_back 124 = .ok (.iaload, 1) := by decide +kernel
theorem dX8_back_125 : decode cX8_back 125 = .ok (.ireturn, 1) := by decide +kernel
theorem dX8_above_0 : decode cX8_above 0 = .ok (.iload_n 0, 1) := by decide +kernel
theorem dX8_above_1 : decode cX8_above 1 = .ok (.tableswitch 43 3 7 #[35, 37, 39, 43, 41], 35) := by decide +kernel
theorem dX8_above_36 : decode cX8_above 36 = .ok (.iconst 2, 1) := by decide +kernel
theorem dX8_above_37 : decode cX8_above 37 = .ok (.ireturn, 1) := by decide +kernel
theorem dX8_above_38 : decode cX8_above 38 = .ok (.iconst 1, 1) := by decide +kernel
theorem dX8_above_39 : decode cX8_above 39 = .ok (.ireturn, 1) := by decide +kernel
theorem dX8_above_40 : decode cX8_above 40 = .ok (.iconst 3, 1) := by decide +kernel
theorem dX8_above_41 : decode cX8_above 41 = .ok (.ireturn, 1) := by decide +kernel
theorem dX8_above_42 : decode cX8_above 42 = .ok (.iconst 4, 1) := by decide +kernel
theorem dX8_above_43 : decode cX8_above 43 = .ok (.ireturn, 1) := by decide +kernel
theorem dX8_above_44 : decode cX8_above 44 = .ok (.iconst 0, 1) := by decide +kernel
theorem dX8_above_45 : decode cX8_above 45 = .ok (.ireturn, 1) := by decide +kernel
theorem dX8_ran_0 : decode cX8_ran 0 = .ok (.aload_n 0, 1) := by decide +kernel
theorem dX8_ran_1 : decode cX8_ran 1 = .ok (.getfield 327, 3) := by decide +kernel
theorem dX8_ran_4 : decode cX8_ran 4 = .ok (.bipush 24, 2) := by decide +kernel
theorem dX8_ran_6 : decode cX8_ran 6 = .ok (.if_icmp .ge 13, 3) := by decide +kernel
theorem dX8_ran_9 : decode cX8_ran 9 = .ok (.aload_n 0, 1) := by decide +kernel
theorem dX8_ran_10 : decode cX8_ran 10 = .ok (.getfield 84, 3) := by decide +kernel
theorem dX8_ran_13 : decode cX8_ran 13 = .ok (.aload_n 0, 1) := by decide +kernel
theorem dX8_ran_14 : decode cX8_ran 14 = .ok (.getfield 327, 3) := by decide +kernel
theorem dX8_ran_17 : decode cX8_ran 17 = .ok (.iload_n 1, 1) := by decide +kernel
theorem dX8_ran_18 : decode cX8_ran 18 = .ok (.iastore, 1) := by decide +kernel
theorem dX8_ran_19 : decode cX8_ran 19 = .ok (.aload_n 0, 1) := by decide +kernel
theorem dX8_ran_20 : decode cX8_ran 20 = .ok (.dup, 1) := by decide +kernel
theorem dX8_ran_21 : decode cX8_ran 21 = .ok (.getfield 327, 3) := by decide +kernel
theorem dX8_ran_24 : decode cX8_ran 24 = .ok (.iconst 1, 1) := by decide +kernel
theorem dX8_ran_25 : decode cX8_ran 25 = .ok (.iadd, 1) := by decide +kernel
theorem dX8_ran_26 : decode cX8_ran 26 = .ok (.putfield 327, 3) := by decide +kernel
theorem dX8_ran_29 : decode cX8_ran 29 = .ok (.return_, 1) := by decide +kernel
theorem dX8_opensBy_0 : decode cX8_opensBy 0 = .ok (.iload_n 2, 1) := by decide +kernel
theorem dX8_opensBy_1 : decode cX8_opensBy 1 = .ok (.lookupswitch 76 #[(0, 35), (1, 44), (6, 60)], 35) := by decide +kernel
theorem dX8_opensBy_36 : decode cX8_opensBy 36 = .ok (.aload_n 0, 1) := by decide +kernel
theorem dX8_opensBy_37 : decode cX8_opensBy 37 = .ok (.iconst 1, 1) := by decide +kernel
theorem dX8_opensBy_38 : decode cX8_opensBy 38 = .ok (.invokevirtual 330, 3) := by decide +kernel
theorem dX8_opensBy_41 : decode cX8_opensBy 41 = .ok (.iload_n 3, 1) := by decide +kernel
theorem dX8_opensBy_42 : decode cX8_opensBy 42 = .ok (.iload_n 1, 1) := by decide +kernel
theorem dX8_opensBy_43 : decode cX8_opensBy 43 = .ok (.iadd, 1) := by decide +kernel
theorem dX8_opensBy_44 : decode cX8_opensBy 44 = .ok (.ireturn, 1) := by decide +kernel
theorem dX8_opensBy_45 : decode cX8_opensBy 45 = .ok (.aload_n 0, 1) := by decide +kernel
theorem dX8_opensBy_46 : decode cX8_opensBy 46 = .ok (.bipush 20, 2) := by decide +kernel
theorem dX8_opensBy_48 : decode cX8_opensBy 48 = .ok (.invokevirtual 330, 3) := by decide +kernel
theorem dX8_opensBy_51 : decode cX8_opensBy 51 = .ok (.aload_n 0, 1) := by decide +kernel
theorem dX8_opensBy_52 : decode cX8_opensBy 52 = .ok (.iload_n 1, 1) := by decide +kernel
theorem dX8_opensBy_53 : decode cX8_opensBy 53 = .ok (.iconst 0, 1) := by decide +kernel
theorem dX8_opensBy_54 : decode cX8_opensBy 54 = .ok (.iload_n 3, 1) := by decide +kernel
theorem dX8_opensBy_55 : decode cX8_opensBy 55 = .ok (.invokevirtual 334, 3) := by decide +kernel
theorem dX8_opensBy_58 : decode cX8_opensBy 58 = .ok (.iconst 3, 1) := by decide +kernel
theorem dX8_opensBy_59 : decode cX8_opensBy 59 = .ok (.iadd, 1) := by decide +kernel
theorem dX8_opensBy_60 : decode cX8_opensBy 60 = .ok (.ireturn, 1) := by decide +kernel
theorem dX8_opensBy_61 : decode cX8_opensBy 61 = .ok (.aload_n 0, 1) := by decide +kernel
theorem dX8_opensBy_62 : decode cX8_opensBy 62 = .ok (.bipush 70, 2) := by decide +kernel
theorem dX8_opensBy_64 : decode cX8_opensBy 64 = .ok (.invokevirtual 330, 3) := by decide +kernel
theorem dX8_opensBy_67 : decode cX8_opensBy 67 = .ok (.aload_n 0, 1) := by decide +kernel
theorem dX8_opensBy_68 : decode cX8_opensBy 68 = .ok (.iload_n 1, 1) := by decide +kernel
theorem dX8_opensBy_69 : decode cX8_opensBy 69 = .ok (.iconst 0, 1) := by decide +kernel
theorem dX8_opensBy_70 : decode cX8_opensBy 70 = .ok (.iload_n 3, 1) := by decide +kernel
theorem dX8_opensBy_71 : decode cX8_opensBy 71 = .ok (.invokevirtual 334, 3) := by decide +kernel
theorem dX8_opensBy_74 : decode cX8_opensBy 74 = .ok (.iconst 2, 1) := by decide +kernel
theorem dX8_opensBy_75 : decode cX8_opensBy 75 = .ok (.imul, 1) := by decide +kernel
theorem dX8_opensBy_76 : decode cX8_opensBy 76 = .ok (.ireturn, 1) := by decide +kernel
theorem dX8_opensBy_77 : decode cX8_opensBy 77 = .ok (.aload_n 0, 1) := by decide +kernel
theorem dX8_opensBy_78 : decode cX8_opensBy 78 = .ok (.iload_n 1, 1) := by decide +kernel
theorem dX8_opensBy_79 : decode cX8_opensBy 79 = .ok (.iload_n 2, 1) := by decide +kernel
theorem dX8_opensBy_80 : decode cX8_opensBy 80 = .ok (.invokestatic 337, 3) := by decide +kernel
theorem dX8_opensBy_83 : decode cX8_opensBy 83 = .ok (.iload_n 3, 1) := by decide +kernel
theorem dX8_opensBy_84 : decode cX8_opensBy 84 = .ok (.invokevirtual 334, 3) := by decide +kernel
theorem dX8_opensBy_87 : decode cX8_opensBy 87 = .ok (.ireturn, 1) := by decide +kernel
theorem dX8_countsBy_0 : decode cX8_countsBy 0 = .ok (.iload_n 2, 1) := by decide +kernel
theorem dX8_countsBy_1 : decode cX8_countsBy 1 = .ok (.tableswitch 130 0 7 #[47, 130, 68, 83, 130, 130, 130, 99], 47) := by decide +kernel
theorem dX8_countsBy_48 : decode cX8_countsBy 48 = .ok (.aload_n 0, 1) := by decide +kernel
theorem dX8_countsBy_49 : decode cX8_countsBy 49 = .ok (.bipush 10, 2) := by decide +kernel
theorem dX8_countsBy_51 : decode cX8_countsBy 51 = .ok (.invokevirtual 330, 3) := by decide +kernel
theorem dX8_countsBy_54 : decode cX8_countsBy 54 = .ok (.aload_n 0, 1) := by decide +kernel
theorem dX8_countsBy_55 : decode cX8_countsBy 55 = .ok (.iload_n 1, 1) := by decide +kernel
theorem dX8_countsBy_56 : decode cX8_countsBy 56 = .ok (.aload_n 0, 1) := by decide +kernel
theorem dX8_countsBy_57 : decode cX8_countsBy 57 = .ok (.getfield 81, 3) := by decide +kernel
theorem dX8_countsBy_60 : decode cX8_countsBy 60 = .ok (.iload_n 1, 1) := by decide +kernel
theorem dX8_countsBy_61 : decode cX8_countsBy 61 = .ok (.iaload, 1) := by decide +kernel
theorem dX8_countsBy_62 : decode cX8_countsBy 62 = .ok (.iload_n 3, 1) := by decide +kernel
theorem dX8_countsBy_63 : decode cX8_countsBy 63 = .ok (.invokevirtual 334, 3) := by decide +kernel
theorem dX8_countsBy_66 : decode cX8_countsBy 66 = .ok (.iconst 2, 1) := by decide +kernel
theorem dX8_countsBy_67 : decode cX8_countsBy 67 = .ok (.imul, 1) := by decide +kernel
theorem dX8_countsBy_68 : decode cX8_countsBy 68 = .ok (.ireturn, 1) := by decide +kernel
theorem dX8_countsBy_69 : decode cX8_countsBy 69 = .ok (.aload_n 0, 1) := by decide +kernel
theorem dX8_countsBy_70 : decode cX8_countsBy 70 = .ok (.bipush 30, 2) := by decide +kernel
theorem dX8_countsBy_72 : decode cX8_countsBy 72 = .ok (.invokevirtual 330, 3) := by decide +kernel
theorem dX8_countsBy_75 : decode cX8_countsBy 75 = .ok (.aload_n 0, 1) := by decide +kernel
theorem dX8_countsBy_76 : decode cX8_countsBy 76 = .ok (.iload_n 1, 1) := by decide +kernel
theorem dX8_countsBy_77 : decode cX8_countsBy 77 = .ok (.iconst 0, 1) := by decide +kernel
theorem dX8_countsBy_78 : decode cX8_countsBy 78 = .ok (.iload_n 3, 1) := by decide +kernel
theorem dX8_countsBy_79 : decode cX8_countsBy 79 = .ok (.invokevirtual 340, 3) := by decide +kernel
theorem dX8_countsBy_82 : decode cX8_countsBy 82 = .ok (.ineg, 1) := by decide +kernel
theorem dX8_countsBy_83 : decode cX8_countsBy 83 = .ok (.ireturn, 1) := by decide +kernel
theorem dX8_countsBy_84 : decode cX8_countsBy 84 = .ok (.aload_n 0, 1) := by decide +kernel
theorem dX8_countsBy_85 : decode cX8_countsBy 85 = .ok (.bipush 41, 2) := by decide +kernel
theorem dX8_countsBy_87 : decode cX8_countsBy 87 = .ok (.invokevirtual 330, 3) := by decide +kernel
theorem dX8_countsBy_90 : decode cX8_countsBy 90 = .ok (.aload_n 0, 1) := by decide +kernel
theorem dX8_countsBy_91 : decode cX8_countsBy 91 = .ok (.iload_n 1, 1) := by decide +kernel
theorem dX8_countsBy_92 : decode cX8_countsBy 92 = .ok (.iconst 2, 1) := by decide +kernel
theorem dX8_countsBy_93 : decode cX8_countsBy 93 = .ok (.iload_n 3, 1) := by decide +kernel
theorem dX8_countsBy_94 : decode cX8_countsBy 94 = .ok (.iconst 1, 1) := by decide +kernel
theorem dX8_countsBy_95 : decode cX8_countsBy 95 = .ok (.iadd, 1) := by decide +kernel
theorem dX8_countsBy_96 : decode cX8_countsBy 96 = .ok (.invokevirtual 340, 3) := by decide +kernel
theorem dX8_countsBy_99 : decode cX8_countsBy 99 = .ok (.ireturn, 1) := by decide +kernel
theorem dX8_countsBy_100 : decode cX8_countsBy 100 = .ok (.aload_n 0, 1) := by decide +kernel
theorem dX8_countsBy_101 : decode cX8_countsBy 101 = .ok (.bipush 80, 2) := by decide +kernel
theorem dX8_countsBy_103 : decode cX8_countsBy 103 = .ok (.invokevirtual 330, 3) := by decide +kernel
theorem dX8_countsBy_106 : decode cX8_countsBy 106 = .ok (.aload_n 0, 1) := by decide +kernel
theorem dX8_countsBy_107 : decode cX8_countsBy 107 = .ok (.iload_n 1, 1) := by decide +kernel
theorem dX8_countsBy_108 : decode cX8_countsBy 108 = .ok (.iconst 4, 1) := by decide +kernel
theorem dX8_countsBy_109 : decode cX8_countsBy 109 = .ok (.iload_n 3, 1) := by decide +kernel
theorem dX8_countsBy_110 : decode cX8_countsBy 110 = .ok (.invokevirtual 340, 3) := by decide +kernel
theorem dX8_countsBy_113 : decode cX8_countsBy 113 = .ok (.istore 4, 2) := by decide +kernel
theorem dX8_countsBy_115 : decode cX8_countsBy 115 = .ok (.iload 4, 2) := by decide +kernel
theorem dX8_countsBy_117 : decode cX8_countsBy 117 = .ok (.aload_n 0, 1) := by decide +kernel
theorem dX8_countsBy_118 : decode cX8_countsBy 118 = .ok (.iload_n 1, 1) := by decide +kernel
theorem dX8_countsBy_119 : decode cX8_countsBy 119 = .ok (.aload_n 0, 1) := by decide +kernel
theorem dX8_countsBy_120 : decode cX8_countsBy 120 = .ok (.getfield 81, 3) := by decide +kernel
theorem dX8_countsBy_123 : decode cX8_countsBy 123 = .ok (.iload_n 1, 1) := by decide +kernel
theorem dX8_countsBy_124 : decode cX8_countsBy 124 = .ok (.iaload, 1) := by decide +kernel
theorem dX8_countsBy_125 : decode cX8_countsBy 125 = .ok (.iconst 2, 1) := by decide +kernel
theorem dX8_countsBy_126 : decode cX8_countsBy 126 = .ok (.invokevirtual 343, 3) := by decide +kernel
theorem dX8_countsBy_129 : decode cX8_countsBy 129 = .ok (.iadd, 1) := by decide +kernel
theorem dX8_countsBy_130 : decode cX8_countsBy 130 = .ok (.ireturn, 1) := by decide +kernel
theorem dX8_countsBy_131 : decode cX8_countsBy 131 = .ok (.aload_n 0, 1) := by decide +kernel
theorem dX8_countsBy_132 : decode cX8_countsBy 132 = .ok (.iload_n 1, 1) := by decide +kernel
theorem dX8_countsBy_133 : decode cX8_countsBy 133 = .ok (.iload_n 2, 1) := by decide +kernel
theorem dX8_countsBy_134 : decode cX8_countsBy 134 = .ok (.invokestatic 337, 3) := by decide +kernel
theorem dX8_countsBy_137 : decode cX8_countsBy 137 = .ok (.iload_n 3, 1) := by decide +kernel
theorem dX8_countsBy_138 : decode cX8_countsBy 138 = .ok (.invokevirtual 340, 3) := by decide +kernel
theorem dX8_countsBy_141 : decode cX8_countsBy 141 = .ok (.ireturn, 1) := by decide +kernel
theorem dX8_slamsBy_0 : decode cX8_slamsBy 0 = .ok (.iload_n 2, 1) := by decide +kernel
theorem dX8_slamsBy_1 : decode cX8_slamsBy 1 = .ok (.tableswitch 92 0 4 #[35, 92, 92, 45, 61], 35) := by decide +kernel
theorem dX8_slamsBy_36 : decode cX8_slamsBy 36 = .ok (.aload_n 0, 1) := by decide +kernel
theorem dX8_slamsBy_37 : decode cX8_slamsBy 37 = .ok (.bipush 11, 2) := by decide +kernel
theorem dX8_slamsBy_39 : decode cX8_slamsBy 39 = .ok (.invokevirtual 330, 3) := by decide +kernel
theorem dX8_slamsBy_42 : decode cX8_slamsBy 42 = .ok (.iload_n 3, 1) := by decide +kernel
theorem dX8_slamsBy_43 : decode cX8_slamsBy 43 = .ok (.iload_n 1, 1) := by decide +kernel
theorem dX8_slamsBy_44 : decode cX8_slamsBy 44 = .ok (.ixor, 1) := by decide +kernel
theorem dX8_slamsBy_45 : decode cX8_slamsBy 45 = .ok (.ireturn, 1) := by decide +kernel
theorem dX8_slamsBy_46 : decode cX8_slamsBy 46 = .ok (.aload_n 0, 1) := by decide +kernel
theorem dX8_slamsBy_47 : decode cX8_slamsBy 47 = .ok (.bipush 40, 2) := by decide +kernel
theorem dX8_slamsBy_49 : decode cX8_slamsBy 49 = .ok (.invokevirtual 330, 3) := by decide +kernel
theorem dX8_slamsBy_52 : decode cX8_slamsBy 52 = .ok (.aload_n 0, 1) := by decide +kernel
theorem dX8_slamsBy_53 : decode cX8_slamsBy 53 = .ok (.iload_n 1, 1) := by decide +kernel
theorem dX8_slamsBy_54 : decode cX8_slamsBy 54 = .ok (.iconst 2, 1) := by decide +kernel
theorem dX8_slamsBy_55 : decode cX8_slamsBy 55 = .ok (.iload_n 3, 1) := by decide +kernel
theorem dX8_slamsBy_56 : decode cX8_slamsBy 56 = .ok (.invokevirtual 343, 3) := by decide +kernel
theorem dX8_slamsBy_59 : decode cX8_slamsBy 59 = .ok (.iconst 3, 1) := by decide +kernel
theorem dX8_slamsBy_60 : decode cX8_slamsBy 60 = .ok (.imul, 1) := by decide +kernel
theorem dX8_slamsBy_61 : decode cX8_slamsBy 61 = .ok (.ireturn, 1) := by decide +kernel
theorem dX8_slamsBy_62 : decode cX8_slamsBy 62 = .ok (.aload_n 0, 1) := by decide +kernel
theorem dX8_slamsBy_63 : decode cX8_slamsBy 63 = .ok (.bipush 50, 2) := by decide +kernel
theorem dX8_slamsBy_65 : decode cX8_slamsBy 65 = .ok (.invokevirtual 330, 3) := by decide +kernel
theorem dX8_slamsBy_68 : decode cX8_slamsBy 68 = .ok (.aload_n 0, 1) := by decide +kernel
theorem dX8_slamsBy_69 : decode cX8_slamsBy 69 = .ok (.iload_n 1, 1) := by decide +kernel
theorem dX8_slamsBy_70 : decode cX8_slamsBy 70 = .ok (.iconst 1, 1) := by decide +kernel
theorem dX8_slamsBy_71 : decode cX8_slamsBy 71 = .ok (.iload_n 3, 1) := by decide +kernel
theorem dX8_slamsBy_72 : decode cX8_slamsBy 72 = .ok (.invokevirtual 343, 3) := by decide +kernel
theorem dX8_slamsBy_75 : decode cX8_slamsBy 75 = .ok (.istore 4, 2) := by decide +kernel
theorem dX8_slamsBy_77 : decode cX8_slamsBy 77 = .ok (.iload 4, 2) := by decide +kernel
theorem dX8_slamsBy_79 : decode cX8_slamsBy 79 = .ok (.aload_n 0, 1) := by decide +kernel
theorem dX8_slamsBy_80 : decode cX8_slamsBy 80 = .ok (.iload_n 1, 1) := by decide +kernel
theorem dX8_slamsBy_81 : decode cX8_slamsBy 81 = .ok (.aload_n 0, 1) := by decide +kernel
theorem dX8_slamsBy_82 : decode cX8_slamsBy 82 = .ok (.getfield 81, 3) := by decide +kernel
theorem dX8_slamsBy_85 : decode cX8_slamsBy 85 = .ok (.iload_n 1, 1) := by decide +kernel
theorem dX8_slamsBy_86 : decode cX8_slamsBy 86 = .ok (.iaload, 1) := by decide +kernel
theorem dX8_slamsBy_87 : decode cX8_slamsBy 87 = .ok (.iconst 2, 1) := by decide +kernel
theorem dX8_slamsBy_88 : decode cX8_slamsBy 88 = .ok (.invokevirtual 334, 3) := by decide +kernel
theorem dX8_slamsBy_91 : decode cX8_slamsBy 91 = .ok (.isub, 1) := by decide +kernel
theorem dX8_slamsBy_92 : decode cX8_slamsBy 92 = .ok (.ireturn, 1) := by decide +kernel
theorem dX8_slamsBy_93 : decode cX8_slamsBy 93 = .ok (.aload_n 0, 1) := by decide +kernel
theorem dX8_slamsBy_94 : decode cX8_slamsBy 94 = .ok (.iload_n 1, 1) := by decide +kernel
theorem dX8_slamsBy_95 : decode cX8_slamsBy 95 = .ok (.iload_n 2, 1) := by decide +kernel
theorem dX8_slamsBy_96 : decode cX8_slamsBy 96 = .ok (.invokestatic 337, 3) := by decide +kernel
theorem dX8_slamsBy_99 : decode cX8_slamsBy 99 = .ok (.iload_n 3, 1) := by decide +kernel
theorem dX8_slamsBy_100 : decode cX8_slamsBy 100 = .ok (.invokevirtual 343, 3) := by decide +kernel
theorem dX8_slamsBy_103 : decode cX8_slamsBy 103 = .ok (.ireturn, 1) := by decide +kernel
theorem dX8_tells_0 : decode cX8_tells 0 = .ok (.iload_n 2, 1) := by decide +kernel
theorem dX8_tells_1 : decode cX8_tells 1 = .ok (.lookupswitch 102 #[(0, 35), (5, 70), (7, 86)], 35) := by decide +kernel
theorem dX8_tells_36 : decode cX8_tells 36 = .ok (.aload_n 0, 1) := by decide +kernel
theorem dX8_tells_37 : decode cX8_tells 37 = .ok (.iconst 2, 1) := by decide +kernel
theorem dX8_tells_38 : decode cX8_tells 38 = .ok (.invokevirtual 330, 3) := by decide +kernel
theorem dX8_tells_41 : decode cX8_tells 41 = .ok (.aload_n 0, 1) := by decide +kernel
theorem dX8_tells_42 : decode cX8_tells 42 = .ok (.iload_n 1, 1) := by decide +kernel
theorem dX8_tells_43 : decode cX8_tells 43 = .ok (.aload_n 0, 1) := by decide +kernel
theorem dX8_tells_44 : decode cX8_tells 44 = .ok (.getfield 81, 3) := by decide +kernel
theorem dX8_tells_47 : decode cX8_tells 47 = .ok (.iload_n 1, 1) := by decide +kernel
theorem dX8_tells_48 : decode cX8_tells 48 = .ok (.iaload, 1) := by decide +kernel
theorem dX8_tells_49 : decode cX8_tells 49 = .ok (.iload_n 3, 1) := by decide +kernel
theorem dX8_tells_50 : decode cX8_tells 50 = .ok (.invokevirtual 340, 3) := by decide +kernel
theorem dX8_tells_53 : decode cX8_tells 53 = .ok (.istore 4, 2) := by decide +kernel
theorem dX8_tells_55 : decode cX8_tells 55 = .ok (.iload 4, 2) := by decide +kernel
theorem dX8_tells_57 : decode cX8_tells 57 = .ok (.aload_n 0, 1) := by decide +kernel
theorem dX8_tells_58 : decode cX8_tells 58 = .ok (.iload_n 1, 1) := by decide +kernel
theorem dX8_tells_59 : decode cX8_tells 59 = .ok (.aload_n 0, 1) := by decide +kernel
theorem dX8_tells_60 : decode cX8_tells 60 = .ok (.getfield 81, 3) := by decide +kernel
theorem dX8_tells_63 : decode cX8_tells 63 = .ok (.iload_n 1, 1) := by decide +kernel
theorem dX8_tells_64 : decode cX8_tells 64 = .ok (.iaload, 1) := by decide +kernel
theorem dX8_tells_65 : decode cX8_tells 65 = .ok (.iconst 1, 1) := by decide +kernel
theorem dX8_tells_66 : decode cX8_tells 66 = .ok (.invokevirtual 343, 3) := by decide +kernel
theorem dX8_tells_69 : decode cX8_tells 69 = .ok (.isub, 1) := by decide +kernel
theorem dX8_tells_70 : decode cX8_tells 70 = .ok (.ireturn, 1) := by decide +kernel
theorem dX8_tells_71 : decode cX8_tells 71 = .ok (.aload_n 0, 1) := by decide +kernel
theorem dX8_tells_72 : decode cX8_tells 72 = .ok (.bipush 60, 2) := by decide +kernel
theorem dX8_tells_74 : decode cX8_tells 74 = .ok (.invokevirtual 330, 3) := by decide +kernel
theorem dX8_tells_77 : decode cX8_tells 77 = .ok (.aload_n 0, 1) := by decide +kernel
theorem dX8_tells_78 : decode cX8_tells 78 = .ok (.iload_n 1, 1) := by decide +kernel
theorem dX8_tells_79 : decode cX8_tells 79 = .ok (.iconst 3, 1) := by decide +kernel
theorem dX8_tells_80 : decode cX8_tells 80 = .ok (.iload_n 3, 1) := by decide +kernel
theorem dX8_tells_81 : decode cX8_tells 81 = .ok (.invokevirtual 346, 3) := by decide +kernel
theorem dX8_tells_84 : decode cX8_tells 84 = .ok (.iconst 5, 1) := by decide +kernel
theorem dX8_tells_85 : decode cX8_tells 85 = .ok (.ixor, 1) := by decide +kernel
theorem dX8_tells_86 : decode cX8_tells 86 = .ok (.ireturn, 1) := by decide +kernel
theorem dX8_tells_87 : decode cX8_tells 87 = .ok (.aload_n 0, 1) := by decide +kernel
theorem dX8_tells_88 : decode cX8_tells 88 = .ok (.bipush 81, 2) := by decide +kernel
theorem dX8_tells_90 : decode cX8_tells 90 = .ok (.invokevirtual 330, 3) := by decide +kernel
theorem dX8_tells_93 : decode cX8_tells 93 = .ok (.aload_n 0, 1) := by decide +kernel
theorem dX8_tells_94 : decode cX8_tells 94 = .ok (.iload_n 1, 1) := by decide +kernel
theorem dX8_tells_95 : decode cX8_tells 95 = .ok (.iconst 4, 1) := by decide +kernel
theorem dX8_tells_96 : decode cX8_tells 96 = .ok (.iload_n 3, 1) := by decide +kernel
theorem dX8_tells_97 : decode cX8_tells 97 = .ok (.invokevirtual 346, 3) := by decide +kernel
theorem dX8_tells_100 : decode cX8_tells 100 = .ok (.iconst 1, 1) := by decide +kernel
theorem dX8_tells_101 : decode cX8_tells 101 = .ok (.isub, 1) := by decide +kernel
theorem dX8_tells_102 : decode cX8_tells 102 = .ok (.ireturn, 1) := by decide +kernel
theorem dX8_tells_103 : decode cX8_tells 103 = .ok (.aload_n 0, 1) := by decide +kernel
theorem dX8_tells_104 : decode cX8_tells 104 = .ok (.iload_n 1, 1) := by decide +kernel
theorem dX8_tells_105 : decode cX8_tells 105 = .ok (.iload_n 2, 1) := by decide +kernel
theorem dX8_tells_106 : decode cX8_tells 106 = .ok (.invokestatic 337, 3) := by decide +kernel
theorem dX8_tells_109 : decode cX8_tells 109 = .ok (.iload_n 3, 1) := by decide +kernel
theorem dX8_tells_110 : decode cX8_tells 110 = .ok (.invokevirtual 346, 3) := by decide +kernel
theorem dX8_tells_113 : decode cX8_tells 113 = .ok (.ireturn, 1) := by decide +kernel
theorem dX8_body_0 : decode cX8_body 0 = .ok (.iload_n 1, 1) := by decide +kernel
theorem dX8_body_1 : decode cX8_body 1 = .ok (.iconst 0, 1) := by decide +kernel
theorem dX8_body_2 : decode cX8_body 2 = .ok (.bipush 7, 2) := by decide +kernel
theorem dX8_body_4 : decode cX8_body 4 = .ok (.invokestatic 109, 3) := by decide +kernel
theorem dX8_body_7 : decode cX8_body 7 = .ok (.ifCond .ne 5, 3) := by decide +kernel
theorem dX8_body_10 : decode cX8_body 10 = .ok (.iconst (-1), 1) := by decide +kernel
theorem dX8_body_11 : decode cX8_body 11 = .ok (.ireturn, 1) := by decide +kernel
theorem dX8_body_12 : decode cX8_body 12 = .ok (.aload_n 0, 1) := by decide +kernel
theorem dX8_body_13 : decode cX8_body 13 = .ok (.getfield 349, 3) := by decide +kernel
theorem dX8_body_16 : decode cX8_body 16 = .ok (.bipush 50, 2) := by decide +kernel
theorem dX8_body_18 : decode cX8_body 18 = .ok (.if_icmp .ne 6, 3) := by decide +kernel
theorem dX8_body_21 : decode cX8_body 21 = .ok (.bipush (-3), 2) := by decide +kernel
theorem dX8_body_23 : decode cX8_body 23 = .ok (.ireturn, 1) := by decide +kernel
theorem dX8_body_24 : decode cX8_body 24 = .ok (.aload_n 0, 1) := by decide +kernel
theorem dX8_body_25 : decode cX8_body 25 = .ok (.getfield 81, 3) := by decide +kernel
theorem dX8_body_28 : decode cX8_body 28 = .ok (.aload_n 0, 1) := by decide +kernel
theorem dX8_body_29 : decode cX8_body 29 = .ok (.getfield 349, 3) := by decide +kernel
theorem dX8_body_32 : decode cX8_body 32 = .ok (.iload_n 1, 1) := by decide +kernel
theorem dX8_body_33 : decode cX8_body 33 = .ok (.iastore, 1) := by decide +kernel
theorem dX8_body_34 : decode cX8_body 34 = .ok (.aload_n 0, 1) := by decide +kernel
theorem dX8_body_35 : decode cX8_body 35 = .ok (.dup, 1) := by decide +kernel
theorem dX8_body_36 : decode cX8_body 36 = .ok (.getfield 349, 3) := by decide +kernel
theorem dX8_body_39 : decode cX8_body 39 = .ok (.dup_x1, 1) := by decide +kernel
theorem dX8_body_40 : decode cX8_body 40 = .ok (.iconst 1, 1) := by decide +kernel
theorem dX8_body_41 : decode cX8_body 41 = .ok (.iadd, 1) := by decide +kernel
theorem dX8_body_42 : decode cX8_body 42 = .ok (.putfield 349, 3) := by decide +kernel
theorem dX8_body_45 : decode cX8_body 45 = .ok (.ireturn, 1) := by decide +kernel
theorem dX8_act_0 : decode cX8_act 0 = .ok (.aload_n 0, 1) := by decide +kernel
theorem dX8_act_1 : decode cX8_act 1 = .ok (.iconst 0, 1) := by decide +kernel
theorem dX8_act_2 : decode cX8_act 2 = .ok (.putfield 327, 3) := by decide +kernel
theorem dX8_act_5 : decode cX8_act 5 = .ok (.iload_n 1, 1) := by decide +kernel
theorem dX8_act_6 : decode cX8_act 6 = .ok (.iconst 0, 1) := by decide +kernel
theorem dX8_act_7 : decode cX8_act 7 = .ok (.aload_n 0, 1) := by decide +kernel
theorem dX8_act_8 : decode cX8_act 8 = .ok (.getfield 349, 3) := by decide +kernel
theorem dX8_act_11 : decode cX8_act 11 = .ok (.iconst 1, 1) := by decide +kernel
theorem dX8_act_12 : decode cX8_act 12 = .ok (.isub, 1) := by decide +kernel
theorem dX8_act_13 : decode cX8_act 13 = .ok (.invokestatic 109, 3) := by decide +kernel
theorem dX8_act_16 : decode cX8_act 16 = .ok (.ifCond .eq 12, 3) := by decide +kernel
theorem dX8_act_19 : decode cX8_act 19 = .ok (.iload_n 2, 1) := by decide +kernel
theorem dX8_act_20 : decode cX8_act 20 = .ok (.iconst 0, 1) := by decide +kernel
theorem dX8_act_21 : decode cX8_act 21 = .ok (.iconst 3, 1) := by decide +kernel
theorem dX8_act_22 : decode cX8_act 22 = .ok (.invokestatic 109, 3) := by decide +kernel
theorem dX8_act_25 : decode cX8_act 25 = .ok (.ifCond .ne 5, 3) := by decide +kernel
theorem dX8_act_28 : decode cX8_act 28 = .ok (.iconst 0, 1) := by decide +kernel
theorem dX8_act_29 : decode cX8_act 29 = .ok (.ireturn, 1) := by decide +kernel
theorem dX8_act_30 : decode cX8_act 30 = .ok (.aload_n 0, 1) := by decide +kernel
theorem dX8_act_31 : decode cX8_act 31 = .ok (.getfield 81, 3) := by decide +kernel
theorem dX8_act_34 : decode cX8_act 34 = .ok (.iload_n 1, 1) := by decide +kernel
theorem dX8_act_35 : decode cX8_act 35 = .ok (.iaload, 1) := by decide +kernel
theorem dX8_act_36 : decode cX8_act 36 = .ok (.istore 4, 2) := by decide +kernel
theorem dX8_act_38 : decode cX8_act 38 = .ok (.iload_n 2, 1) := by decide +kernel
theorem dX8_act_39 : decode cX8_act 39 = .ok (.ifCond .ne 14, 3) := by decide +kernel
theorem dX8_act_42 : decode cX8_act 42 = .ok (.aload_n 0, 1) := by decide +kernel
theorem dX8_act_43 : decode cX8_act 43 = .ok (.iload_n 1, 1) := by decide +kernel
theorem dX8_act_44 : decode cX8_act 44 = .ok (.iload 4, 2) := by decide +kernel
theorem dX8_act_46 : decode cX8_act 46 = .ok (.iload_n 3, 1) := by decide +kernel
theorem dX8_act_47 : decode cX8_act 47 = .ok (.invokevirtual 334, 3) := by decide +kernel
theorem dX8_act_50 : decode cX8_act 50 = .ok (.goto 43, 3) := by decide +kernel
theorem dX8_act_53 : decode cX8_act 53 = .ok (.iload_n 2, 1) := by decide +kernel
theorem dX8_act_54 : decode cX8_act 54 = .ok (.iconst 1, 1) := by decide +kernel
theorem dX8_act_55 : decode cX8_act 55 = .ok (.if_icmp .ne 14, 3) := by decide +kernel
theorem dX8_act_58 : decode cX8_act 58 = .ok (.aload_n 0, 1) := by decide +kernel
theorem dX8_act_59 : decode cX8_act 59 = .ok (.iload_n 1, 1) := by decide +kernel
theorem dX8_act_60 : decode cX8_act 60 = .ok (.iload 4, 2) := by decide +kernel
theorem dX8_act_62 : decode cX8_act 62 = .ok (.iload_n 3, 1) := by decide +kernel
theorem dX8_act_63 : decode cX8_act 63 = .ok (.invokevirtual 340, 3) := by decide +kernel
theorem dX8_act_66 : decode cX8_act 66 = .ok (.goto 27, 3) := by decide +kernel
theorem dX8_act_69 : decode cX8_act 69 = .ok (.iload_n 2, 1) := by decide +kernel
theorem dX8_act_70 : decode cX8_act 70 = .ok (.iconst 2, 1) := by decide +kernel
theorem dX8_act_71 : decode cX8_act 71 = .ok (.if_icmp .ne 14, 3) := by decide +kernel
theorem dX8_act_74 : decode cX8_act 74 = .ok (.aload_n 0, 1) := by decide +kernel
theorem dX8_act_75 : decode cX8_act 75 = .ok (.iload_n 1, 1) := by decide +kernel
theorem dX8_act_76 : decode cX8_act 76 = .ok (.iload 4, 2) := by decide +kernel
theorem dX8_act_78 : decode cX8_act 78 = .ok (.iload_n 3, 1) := by decide +kernel
theorem dX8_act_79 : decode cX8_act 79 = .ok (.invokevirtual 343, 3) := by decide +kernel
theorem dX8_act_82 : decode cX8_act 82 = .ok (.goto 11, 3) := by decide +kernel
theorem dX8_act_85 : decode cX8_act 85 = .ok (.aload_n 0, 1) := by decide +kernel
theorem dX8_act_86 : decode cX8_act 86 = .ok (.iload_n 1, 1) := by decide +kernel
theorem dX8_act_87 : decode cX8_act 87 = .ok (.iload 4, 2) := by decide +kernel
theorem dX8_act_89 : decode cX8_act 89 = .ok (.iload_n 3, 1) := by decide +kernel
theorem dX8_act_90 : decode cX8_act 90 = .ok (.invokevirtual 346, 3) := by decide +kernel
theorem dX8_act_93 : decode cX8_act 93 = .ok (.ireturn, 1) := by decide +kernel
theorem dX8_trace_0 : decode cX8_trace 0 = .ok (.iload_n 1, 1) := by decide +kernel
theorem dX8_trace_1 : decode cX8_trace 1 = .ok (.iconst 0, 1) := by decide +kernel
theorem dX8_trace_2 : decode cX8_trace 2 = .ok (.bipush 24, 2) := by decide +kernel
theorem dX8_trace_4 : decode cX8_trace 4 = .ok (.aload_n 0, 1) := by decide +kernel
theorem dX8_trace_5 : decode cX8_trace 5 = .ok (.getfield 327, 3) := by decide +kernel
theorem dX8_trace_8 : decode cX8_trace 8 = .ok (.invokestatic 251, 3) := by decide +kernel
theorem dX8_trace_11 : decode cX8_trace 11 = .ok (.iconst 1, 1) := by decide +kernel
theorem dX8_trace_12 : decode cX8_trace 12 = .ok (.isub, 1) := by decide +kernel
theorem dX8_trace_13 : decode cX8_trace 13 = .ok (.invokestatic 109, 3) := by decide +kernel
theorem dX8_trace_16 : decode cX8_trace 16 = .ok (.ifCond .eq 12, 3) := by decide +kernel
theorem dX8_trace_19 : decode cX8_trace 19 = .ok (.aload_n 0, 1) := by decide +kernel
theorem dX8_trace_20 : decode cX8_trace 20 = .ok (.getfield 84, 3) := by decide +kernel
theorem dX8_trace_23 : decode cX8_trace 23 = .ok (.iload_n 1, 1) := by decide +kernel
theorem dX8_trace_24 : decode cX8_trace 24 = .ok (.iaload, 1) := by decide +kernel
theorem dX8_trace_25 : decode cX8_trace 25 = .ok (.goto 4, 3) := by decide +kernel
theorem dX8_trace_28 : decode cX8_trace 28 = .ok (.iconst (-1), 1) := by decide +kernel
theorem dX8_trace_29 : decode cX8_trace 29 = .ok (.ireturn, 1) := by decide +kernel
theorem dX8_keep_0 : decode cX8_keep 0 = .ok (.iload_n 1, 1) := by decide +kernel
theorem dX8_keep_1 : decode cX8_keep 1 = .ok (.invokestatic 137, 3) := by decide +kernel
theorem dX8_keep_4 : decode cX8_keep 4 = .ok (.ifCond .eq 17, 3) := by decide +kernel
theorem dX8_keep_7 : decode cX8_keep 7 = .ok (.iload_n 2, 1) := by decide +kernel
theorem dX8_keep_8 : decode cX8_keep 8 = .ok (.iconst (-1), 1) := by decide +kernel
theorem dX8_keep_9 : decode cX8_keep 9 = .ok (.aload_n 0, 1) := by decide +kernel
theorem dX8_keep_10 : decode cX8_keep 10 = .ok (.getfield 349, 3) := by decide +kernel
theorem dX8_keep_13 : decode cX8_keep 13 = .ok (.iconst 1, 1) := by decide +kernel
theorem dX8_keep_14 : decode cX8_keep 14 = .ok (.isub, 1) := by decide +kernel
theorem dX8_keep_15 : decode cX8_keep 15 = .ok (.invokestatic 109, 3) := by decide +kernel
theorem dX8_keep_18 : decode cX8_keep 18 = .ok (.ifCond .ne 5, 3) := by decide +kernel
theorem dX8_keep_21 : decode cX8_keep 21 = .ok (.iconst (-1), 1) := by decide +kernel
theorem dX8_keep_22 : decode cX8_keep 22 = .ok (.ireturn, 1) := by decide +kernel
theorem dX8_keep_23 : decode cX8_keep 23 = .ok (.aload_n 0, 1) := by decide +kernel
theorem dX8_keep_24 : decode cX8_keep 24 = .ok (.getfield 87, 3) := by decide +kernel
theorem dX8_keep_27 : decode cX8_keep 27 = .ok (.iload_n 1, 1) := by decide +kernel
theorem dX8_keep_28 : decode cX8_keep 28 = .ok (.iload_n 2, 1) := by decide +kernel
theorem dX8_keep_29 : decode cX8_keep 29 = .ok (.ifCond .ge 7, 3) := by decide +kernel
theorem dX8_keep_32 : decode cX8_keep 32 = .ok (.iconst (-1), 1) := by decide +kernel
theorem dX8_keep_33 : decode cX8_keep 33 = .ok (.goto 7, 3) := by decide +kernel
theorem dX8_keep_36 : decode cX8_keep 36 = .ok (.bipush 10, 2) := by decide +kernel
theorem dX8_keep_38 : decode cX8_keep 38 = .ok (.iload_n 2, 1) := by decide +kernel
theorem dX8_keep_39 : decode cX8_keep 39 = .ok (.iadd, 1) := by decide +kernel
theorem dX8_keep_40 : decode cX8_keep 40 = .ok (.iastore, 1) := by decide +kernel
theorem dX8_keep_41 : decode cX8_keep 41 = .ok (.aload_n 0, 1) := by decide +kernel
theorem dX8_keep_42 : decode cX8_keep 42 = .ok (.getfield 90, 3) := by decide +kernel
theorem dX8_keep_45 : decode cX8_keep 45 = .ok (.iload_n 1, 1) := by decide +kernel
theorem dX8_keep_46 : decode cX8_keep 46 = .ok (.iconst 0, 1) := by decide +kernel
theorem dX8_keep_47 : decode cX8_keep 47 = .ok (.iastore, 1) := by decide +kernel
theorem dX8_keep_48 : decode cX8_keep 48 = .ok (.iconst 1, 1) := by decide +kernel
theorem dX8_keep_49 : decode cX8_keep 49 = .ok (.ireturn, 1) := by decide +kernel
theorem dX8_row_0 : decode cX8_row 0 = .ok (.iload_n 1, 1) := by decide +kernel
theorem dX8_row_1 : decode cX8_row 1 = .ok (.invokestatic 137, 3) := by decide +kernel
theorem dX8_row_4 : decode cX8_row 4 = .ok (.ifCond .eq 18, 3) := by decide +kernel
theorem dX8_row_7 : decode cX8_row 7 = .ok (.iload_n 2, 1) := by decide +kernel
theorem dX8_row_8 : decode cX8_row 8 = .ok (.iconst 0, 1) := by decide +kernel
theorem dX8_row_9 : decode cX8_row 9 = .ok (.iconst 4, 1) := by decide +kernel
theorem dX8_row_10 : decode cX8_row 10 = .ok (.invokestatic 109, 3) := by decide +kernel
theorem dX8_row_13 : decode cX8_row 13 = .ok (.ifCond .eq 9, 3) := by decide +kernel
theorem dX8_row_16 : decode cX8_row 16 = .ok (.iload_n 3, 1) := by decide +kernel
theorem dX8_row_17 : decode cX8_row 17 = .ok (.bipush 60, 2) := by decide +kernel
theorem dX8_row_19 : decode cX8_row 19 = .ok (.if_icmp .le 5, 3) := by decide +kernel
theorem dX8_row_22 : decode cX8_row 22 = .ok (.iconst (-1), 1) := by decide +kernel
theorem dX8_row_23 : decode cX8_row 23 = .ok (.ireturn, 1) := by decide +kernel
theorem dX8_row_24 : decode cX8_row 24 = .ok (.iload_n 3, 1) := by decide +kernel
theorem dX8_row_25 : decode cX8_row 25 = .ok (.ifCond .ge 6, 3) := by decide +kernel
theorem dX8_row_28 : decode cX8_row 28 = .ok (.bipush (-14), 2) := by decide +kernel
theorem dX8_row_30 : decode cX8_row 30 = .ok (.ireturn, 1) := by decide +kernel
theorem dX8_row_31 : decode cX8_row 31 = .ok (.aload_n 0, 1) := by decide +kernel
theorem dX8_row_32 : decode cX8_row 32 = .ok (.getfield 87, 3) := by decide +kernel
theorem dX8_row_35 : decode cX8_row 35 = .ok (.iload_n 1, 1) := by decide +kernel
theorem dX8_row_36 : decode cX8_row 36 = .ok (.iload_n 2, 1) := by decide +kernel
theorem dX8_row_37 : decode cX8_row 37 = .ok (.iastore, 1) := by decide +kernel
theorem dX8_row_38 : decode cX8_row 38 = .ok (.aload_n 0, 1) := by decide +kernel
theorem dX8_row_39 : decode cX8_row 39 = .ok (.getfield 90, 3) := by decide +kernel
theorem dX8_row_42 : decode cX8_row 42 = .ok (.iload_n 1, 1) := by decide +kernel
theorem dX8_row_43 : decode cX8_row 43 = .ok (.iload_n 3, 1) := by decide +kernel
theorem dX8_row_44 : decode cX8_row 44 = .ok (.iastore, 1) := by decide +kernel
theorem dX8_row_45 : decode cX8_row 45 = .ok (.iconst 0, 1) := by decide +kernel
theorem dX8_row_46 : decode cX8_row 46 = .ok (.istore 4, 2) := by decide +kernel
theorem dX8_row_48 : decode cX8_row 48 = .ok (.iload 4, 2) := by decide +kernel
theorem dX8_row_50 : decode cX8_row 50 = .ok (.bipush 60, 2) := by decide +kernel
theorem dX8_row_52 : decode cX8_row 52 = .ok (.if_icmp .ge 22, 3) := by decide +kernel
theorem dX8_row_55 : decode cX8_row 55 = .ok (.aload_n 0, 1) := by decide +kernel
theorem dX8_row_56 : decode cX8_row 56 = .ok (.getfield 93, 3) := by decide +kernel
theorem dX8_row_59 : decode cX8_row 59 = .ok (.bipush 60, 2) := by decide +kernel
theorem dX8_row_61 : decode cX8_row 61 = .ok (.iload_n 1, 1) := by decide +kernel
theorem dX8_row_62 : decode cX8_row 62 = .ok (.imul, 1) := by decide +kernel
theorem dX8_row_63 : decode cX8_row 63 = .ok (.iload 4, 2) := by decide +kernel
theorem dX8_row_65 : decode cX8_row 65 = .ok (.iadd, 1) := by decide +kernel
theorem dX8_row_66 : decode cX8_row 66 = .ok (.lconst 0, 1) := by decide +kernel
theorem dX8_row_67 : decode cX8_row 67 = .ok (.lastore, 1) := by decide +kernel
theorem dX8_row_68 : decode cX8_row 68 = .ok (.iinc 4 1, 3) := by decide +kernel
theorem dX8_row_71 : decode cX8_row 71 = .ok (.goto (-23), 3) := by decide +kernel
theorem dX8_row_74 : decode cX8_row 74 = .ok (.iconst 1, 1) := by decide +kernel
theorem dX8_row_75 : decode cX8_row 75 = .ok (.ireturn, 1) := by decide +kernel
theorem dX8_isRow_0 : decode cX8_isRow 0 = .ok (.aload_n 0, 1) := by decide +kernel
theorem dX8_isRow_1 : decode cX8_isRow 1 = .ok (.getfield 87, 3) := by decide +kernel
theorem dX8_isRow_4 : decode cX8_isRow 4 = .ok (.iload_n 1, 1) := by decide +kernel
theorem dX8_isRow_5 : decode cX8_isRow 5 = .ok (.iaload, 1) := by decide +kernel
theorem dX8_isRow_6 : decode cX8_isRow 6 = .ok (.iconst 0, 1) := by decide +kernel
theorem dX8_isRow_7 : decode cX8_isRow 7 = .ok (.iconst 4, 1) := by decide +kernel
theorem dX8_isRow_8 : decode cX8_isRow 8 = .ok (.invokestatic 109, 3) := by decide +kernel
theorem dX8_isRow_11 : decode cX8_isRow 11 = .ok (.ireturn, 1) := by decide +kernel
theorem dX8_kept_0 : decode cX8_kept 0 = .ok (.iload_n 0, 1) := by decide +kernel
theorem dX8_kept_1 : decode cX8_kept 1 = .ok (.tableswitch 47 0 3 #[31, 36, 41, 45], 31) := by decide +kernel
theorem dX8_kept_32 : decode cX8_kept 32 = .ok (.lload_n 1, 1) := by decide +kernel
theorem dX8_kept_33 : decode cX8_kept 33 = .ok (.l2i, 1) := by decide +kernel
theorem dX8_kept_34 : decode cX8_kept 34 = .ok (.i2b, 1) := by decide +kernel
theorem dX8_kept_35 : decode cX8_kept 35 = .ok (.i2l, 1) := by decide +kernel
theorem dX8_kept_36 : decode cX8_kept 36 = .ok (.lreturn, 1) := by decide +kernel
theorem dX8_kept_37 : decode cX8_kept 37 = .ok (.lload_n 1, 1) := by decide +kernel
theorem dX8_kept_38 : decode cX8_kept 38 = .ok (.l2i, 1) := by decide +kernel
theorem dX8_kept_39 : decode cX8_kept 39 = .ok (.i2s, 1) := by decide +kernel
theorem dX8_kept_40 : decode cX8_kept 40 = .ok (.i2l, 1) := by decide +kernel
theorem dX8_kept_41 : decode cX8_kept 41 = .ok (.lreturn, 1) := by decide +kernel
theorem dX8_kept_42 : decode cX8_kept 42 = .ok (.lload_n 1, 1) := by decide +kernel
theorem dX8_kept_43 : decode cX8_kept 43 = .ok (.l2i, 1) := by decide +kernel
theorem dX8_kept_44 : decode cX8_kept 44 = .ok (.i2l, 1) := by decide +kernel
theorem dX8_kept_45 : decode cX8_kept 45 = .ok (.lreturn, 1) := by decide +kernel
theorem dX8_kept_46 : decode cX8_kept 46 = .ok (.lload_n 1, 1) := by decide +kernel
theorem dX8_kept_47 : decode cX8_kept 47 = .ok (.lreturn, 1) := by decide +kernel
theorem dX8_kept_48 : decode cX8_kept 48 = .ok (.lload_n 1, 1) := by decide +kernel
theorem dX8_kept_49 : decode cX8_kept 49 = .ok (.lconst 0, 1) := by decide +kernel
theorem dX8_kept_50 : decode cX8_kept 50 = .ok (.lcmp, 1) := by decide +kernel
theorem dX8_kept_51 : decode cX8_kept 51 = .ok (.ifCond .eq 7, 3) := by decide +kernel
theorem dX8_kept_54 : decode cX8_kept 54 = .ok (.lconst 1, 1) := by decide +kernel
theorem dX8_kept_55 : decode cX8_kept 55 = .ok (.goto 4, 3) := by decide +kernel
theorem dX8_kept_58 : decode cX8_kept 58 = .ok (.lconst 0, 1) := by decide +kernel
theorem dX8_kept_59 : decode cX8_kept 59 = .ok (.lreturn, 1) := by decide +kernel
theorem dX8_put_0 : decode cX8_put 0 = .ok (.iload_n 1, 1) := by decide +kernel
theorem dX8_put_1 : decode cX8_put 1 = .ok (.invokestatic 137, 3) := by decide +kernel
theorem dX8_put_4 : decode cX8_put 4 = .ok (.ifCond .ne 5, 3) := by decide +kernel
theorem dX8_put_7 : decode cX8_put 7 = .ok (.iconst (-1), 1) := by decide +kernel
theorem dX8_put_8 : decode cX8_put 8 = .ok (.ireturn, 1) := by decide +kernel
theorem dX8_put_9 : decode cX8_put 9 = .ok (.aload_n 0, 1) := by decide +kernel
theorem dX8_put_10 : decode cX8_put 10 = .ok (.getfield 87, 3) := by decide +kernel
theorem dX8_put_13 : decode cX8_put 13 = .ok (.iload_n 1, 1) := by decide +kernel
theorem dX8_put_14 : decode cX8_put 14 = .ok (.iaload, 1) := by decide +kernel
theorem dX8_put_15 : decode cX8_put 15 = .ok (.iconst (-1), 1) := by decide +kernel
theorem dX8_put_16 : decode cX8_put 16 = .ok (.if_icmp .ne 6, 3) := by decide +kernel
theorem dX8_put_19 : decode cX8_put 19 = .ok (.bipush (-11), 2) := by decide +kernel
theorem dX8_put_21 : decode cX8_put 21 = .ok (.ireturn, 1) := by decide +kernel
theorem dX8_put_22 : decode cX8_put 22 = .ok (.aload_n 0, 1) := by decide +kernel
theorem dX8_put_23 : decode cX8_put 23 = .ok (.iload_n 1, 1) := by decide +kernel
theorem dX8_put_24 : decode cX8_put 24 = .ok (.invokevirtual 352, 3) := by decide +kernel
theorem dX8_put_27 : decode cX8_put 27 = .ok (.ifCond .ne 6, 3) := by decide +kernel
theorem dX8_put_30 : decode cX8_put 30 = .ok (.bipush (-12), 2) := by decide +kernel
theorem dX8_put_32 : decode cX8_put 32 = .ok (.ireturn, 1) := by decide +kernel
theorem dX8_put_33 : decode cX8_put 33 = .ok (.iload_n 2, 1) := by decide +kernel
theorem dX8_put_34 : decode cX8_put 34 = .ok (.iconst 0, 1) := by decide +kernel
theorem dX8_put_35 : decode cX8_put 35 = .ok (.aload_n 0, 1) := by decide +kernel
theorem dX8_put_36 : decode cX8_put 36 = .ok (.getfield 90, 3) := by decide +kernel
theorem dX8_put_39 : decode cX8_put 39 = .ok (.iload_n 1, 1) := by decide +kernel
theorem dX8_put_40 : decode cX8_put 40 = .ok (.iaload, 1) := by decide +kernel
theorem dX8_put_41 : decode cX8_put 41 = .ok (.iconst 1, 1) := by decide +kernel
theorem dX8_put_42 : decode cX8_put 42 = .ok (.isub, 1) := by decide +kernel
theorem dX8_put_43 : decode cX8_put 43 = .ok (.invokestatic 109, 3) := by decide +kernel
theorem dX8_put_46 : decode cX8_put 46 = .ok (.ifCond .ne 6, 3) := by decide +kernel
theorem dX8_put_49 : decode cX8_put 49 = .ok (.bipush (-13), 2) := by decide +kernel
theorem dX8_put_51 : decode cX8_put 51 = .ok (.ireturn, 1) := by decide +kernel
theorem dX8_put_52 : decode cX8_put 52 = .ok (.aload_n 0, 1) := by decide +kernel
theorem dX8_put_53 : decode cX8_put 53 = .ok (.getfield 93, 3) := by decide +kernel
theorem dX8_put_56 : decode cX8_put 56 = .ok (.bipush 60, 2) := by decide +kernel
theorem dX8_put_58 : decode cX8_put 58 = .ok (.iload_n 1, 1) := by decide +kernel
theorem dX8_put_59 : decode cX8_put 59 = .ok (.imul, 1) := by decide +kernel
theorem dX8_put_60 : decode cX8_put 60 = .ok (.iload_n 2, 1) := by decide +kernel
theorem dX8_put_61 : decode cX8_put 61 = .ok (.iadd, 1) := by decide +kernel
theorem dX8_put_62 : decode cX8_put 62 = .ok (.aload_n 0, 1) := by decide +kernel
theorem dX8_put_63 : decode cX8_put 63 = .ok (.getfield 87, 3) := by decide +kernel
theorem dX8_put_66 : decode cX8_put 66 = .ok (.iload_n 1, 1) := by decide +kernel
theorem dX8_put_67 : decode cX8_put 67 = .ok (.iaload, 1) := by decide +kernel
theorem dX8_put_68 : decode cX8_put 68 = .ok (.lload_n 3, 1) := by decide +kernel
theorem dX8_put_69 : decode cX8_put 69 = .ok (.invokestatic 355, 3) := by decide +kernel
theorem dX8_put_72 : decode cX8_put 72 = .ok (.lastore, 1) := by decide +kernel
theorem dX8_put_73 : decode cX8_put 73 = .ok (.iconst 1, 1) := by decide +kernel
theorem dX8_put_74 : decode cX8_put 74 = .ok (.ireturn, 1) := by decide +kernel
theorem dX8_element_0 : decode cX8_element 0 = .ok (.iload_n 1, 1) := by decide +kernel
theorem dX8_element_1 : decode cX8_element 1 = .ok (.invokestatic 137, 3) := by decide +kernel
theorem dX8_element_4 : decode cX8_element 4 = .ok (.ifCond .eq 41, 3) := by decide +kernel
theorem dX8_element_7 : decode cX8_element 7 = .ok (.aload_n 0, 1) := by decide +kernel
theorem dX8_element_8 : decode cX8_element 8 = .ok (.iload_n 1, 1) := by decide +kernel
theorem dX8_element_9 : decode cX8_element 9 = .ok (.invokevirtual 352, 3) := by decide +kernel
theorem dX8_element_12 : decode cX8_element 12 = .ok (.ifCond .eq 33, 3) := by decide +kernel
theorem dX8_element_15 : decode cX8_element 15 = .ok (.iload_n 2, 1) := by decide +kernel
theorem dX8_element_16 : decode cX8_element 16 = .ok (.iconst 0, 1) := by decide +kernel
theorem dX8_element_17 : decode cX8_element 17 = .ok (.aload_n 0, 1) := by decide +kernel
theorem dX8_element_18 : decode cX8_element 18 = .ok (.getfield 90, 3) := by decide +kernel
theorem dX8_element_21 : decode cX8_element 21 = .ok (.iload_n 1, 1) := by decide +kernel
theorem dX8_element_22 : decode cX8_element 22 = .ok (.iaload, 1) := by decide +kernel
theorem dX8_element_23 : decode cX8_element 23 = .ok (.iconst 1, 1) := by decide +kernel
theorem dX8_element_24 : decode cX8_element 24 = .ok (.isub, 1) := by decide +kernel
theorem dX8_element_25 : decode cX8_element 25 = .ok (.invokestatic 109, 3) := by decide +kernel
theorem dX8_element_28 : decode cX8_element 28 = .ok (.ifCond .eq 17, 3) := by decide +kernel
theorem dX8_element_31 : decode cX8_element 31 = .ok (.aload_n 0, 1) := by decide +kernel
theorem dX8_element_32 : decode cX8_element 32 = .ok (.getfield 93, 3) := by decide +kernel
theorem dX8_element_35 : decode cX8_element 35 = .ok (.bipush 60, 2) := by decide +kernel
theorem dX8_element_37 : decode cX8_element 37 = .ok (.iload_n 1, 1) := by decide +kernel
theorem dX8_element_38 : decode cX8_element 38 = .ok (.imul, 1) := by decide +kernel
theorem dX8_element_39 : decode cX8_element 39 = .ok (.iload_n 2, 1) := by decide +kernel
theorem dX8_element_40 : decode cX8_element 40 = .ok (.iadd, 1) := by decide +kernel
theorem dX8_element_41 : decode cX8_element 41 = .ok (.laload, 1) := by decide +kernel
theorem dX8_element_42 : decode cX8_element 42 = .ok (.goto 6, 3) := by decide +kernel
theorem dX8_element_45 : decode cX8_element 45 = .ok (.ldc2_w 359, 3) := by decide +kernel
theorem dX8_element_48 : decode cX8_element 48 = .ok (.lreturn, 1) := by decide +kernel
theorem dX8_shift_0 : decode cX8_shift 0 = .ok (.iload_n 1, 1) := by decide +kernel
theorem dX8_shift_1 : decode cX8_shift 1 = .ok (.invokestatic 137, 3) := by decide +kernel
theorem dX8_shift_4 : decode cX8_shift 4 = .ok (.ifCond .eq 10, 3) := by decide +kernel
theorem dX8_shift_7 : decode cX8_shift 7 = .ok (.iload_n 3, 1) := by decide +kernel
theorem dX8_shift_8 : decode cX8_shift 8 = .ok (.invokestatic 137, 3) := by decide +kernel
theorem dX8_shift_11 : decode cX8_shift 11 = .ok (.ifCond .ne 5, 3) := by decide +kernel
theorem dX8_shift_14 : decode cX8_shift 14 = .ok (.iconst (-1), 1) := by decide +kernel
theorem dX8_shift_15 : decode cX8_shift 15 = .ok (.ireturn, 1) := by decide +kernel
theorem dX8_shift_16 : decode cX8_shift 16 = .ok (.aload_n 0, 1) := by decide +kernel
theorem dX8_shift_17 : decode cX8_shift 17 = .ok (.getfield 87, 3) := by decide +kernel
theorem dX8_shift_20 : decode cX8_shift 20 = .ok (.iload_n 1, 1) := by decide +kernel
theorem dX8_shift_21 : decode cX8_shift 21 = .ok (.iaload, 1) := by decide +kernel
theorem dX8_shift_22 : decode cX8_shift 22 = .ok (.iconst (-1), 1) := by decide +kernel
theorem dX8_shift_23 : decode cX8_shift 23 = .ok (.if_icmp .eq 13, 3) := by decide +kernel
theorem dX8_shift_26 : decode cX8_shift 26 = .ok (.aload_n 0, 1) := by decide +kernel
theorem dX8_shift_27 : decode cX8_shift 27 = .ok (.getfield 87, 3) := by decide +kernel
theorem dX8_shift_30 : decode cX8_shift 30 = .ok (.iload_n 3, 1) := by decide +kernel
theorem dX8_shift_31 : decode cX8_shift 31 = .ok (.iaload, 1) := by decide +kernel
theorem dX8_shift_32 : decode cX8_shift 32 = .ok (.iconst (-1), 1) := by decide +kernel
theorem dX8_shift_33 : decode cX8_shift 33 = .ok (.if_icmp .ne 6, 3) := by decide +kernel
theorem dX8_shift_36 : decode cX8_shift 36 = .ok (.bipush (-11), 2) := by decide +kernel
theorem dX8_shift_38 : decode cX8_shift 38 = .ok (.ireturn, 1) := by decide +kernel
theorem dX8_shift_39 : decode cX8_shift 39 = .ok (.aload_n 0, 1) := by decide +kernel
theorem dX8_shift_40 : decode cX8_shift 40 = .ok (.iload_n 1, 1) := by decide +kernel
theorem dX8_shift_41 : decode cX8_shift 41 = .ok (.invokevirtual 352, 3) := by decide +kernel
theorem dX8_shift_44 : decode cX8_shift 44 = .ok (.ifCond .eq 26, 3) := by decide +kernel
theorem dX8_shift_47 : decode cX8_shift 47 = .ok (.aload_n 0, 1) := by decide +kernel
theorem dX8_shift_48 : decode cX8_shift 48 = .ok (.iload_n 3, 1) := by decide +kernel
theorem dX8_shift_49 : decode cX8_shift 49 = .ok (.invokevirtual 352, 3) := by decide +kernel
theorem dX8_shift_52 : decode cX8_shift 52 = .ok (.ifCond .eq 18, 3) := by decide +kernel
theorem dX8_shift_55 : decode cX8_shift 55 = .ok (.aload_n 0, 1) := by decide +kernel
theorem dX8_shift_56 : decode cX8_shift 56 = .ok (.getfield 87, 3) := by decide +kernel
theorem dX8_shift_59 : decode cX8_shift 59 = .ok (.iload_n 1, 1) := by decide +kernel
theorem dX8_shift_60 : decode cX8_shift 60 = .ok (.iaload, 1) := by decide +kernel
theorem dX8_shift_61 : decode cX8_shift 61 = .ok (.aload_n 0, 1) := by decide +kernel
theorem dX8_shift_62 : decode cX8_shift 62 = .ok (.getfield 87, 3) := by decide +kernel
theorem dX8_shift_65 : decode cX8_shift 65 = .ok (.iload_n 3, 1) := by decide +kernel
theorem dX8_shift_66 : decode cX8_shift 66 = .ok (.iaload, 1) := by decide +kernel
theorem dX8_shift_67 : decode cX8_shift 67 = .ok (.if_icmp .eq 6, 3) := by decide +kernel
theorem dX8_shift_70 : decode cX8_shift 70 = .ok (.bipush (-12), 2) := by decide +kernel
theorem dX8_shift_72 : decode cX8_shift 72 = .ok (.ireturn, 1) := by decide +kernel
theorem dX8_shift_73 : decode cX8_shift 73 = .ok (.iload 5, 2) := by decide +kernel
theorem dX8_shift_75 : decode cX8_shift 75 = .ok (.ifCond .lt 47, 3) := by decide +kernel
theorem dX8_shift_78 : decode cX8_shift 78 = .ok (.iload_n 2, 1) := by decide +kernel
theorem dX8_shift_79 : decode cX8_shift 79 = .ok (.ifCond .lt 43, 3) := by decide +kernel
theorem dX8_shift_82 : decode cX8_shift 82 = .ok (.iload 4, 2) := by decide +kernel
theorem dX8_shift_84 : decode cX8_shift 84 = .ok (.ifCond .lt 38, 3) := by decide +kernel
theorem dX8_shift_87 : decode cX8_shift 87 = .ok (.iload_n 2, 1) := by decide +kernel
theorem dX8_shift_88 : decode cX8_shift 88 = .ok (.i2l, 1) := by decide +kernel
theorem dX8_shift_89 : decode cX8_shift 89 = .ok (.iload 5, 2) := by decide +kernel
theorem dX8_shift_91 : decode cX8_shift 91 = .ok (.i2l, 1) := by decide +kernel
theorem dX8_shift_92 : decode cX8_shift 92 = .ok (.ladd, 1) := by decide +kernel
theorem dX8_shift_93 : decode cX8_shift 93 = .ok (.aload_n 0, 1) := by decide +kernel
theorem dX8_shift_94 : decode cX8_shift 94 = .ok (.getfield 90, 3) := by decide +kernel
theorem dX8_shift_97 : decode cX8_shift 97 = .ok (.iload_n 1, 1) := by decide +kernel
theorem dX8_shift_98 : decode cX8_shift 98 = .ok (.iaload, 1) := by decide +kernel
theorem dX8_shift_99 : decode cX8_shift 99 = .ok (.i2l, 1) := by decide +kernel
theorem dX8_shift_100 : decode cX8_shift 100 = .ok (.lcmp, 1) := by decide +kernel
theorem dX8_shift_101 : decode cX8_shift 101 = .ok (.ifCond .gt 21, 3) := by decide +kernel
theorem dX8_shift_104 : decode cX8_shift 104 = .ok (.iload 4, 2) := by decide +kernel
theorem dX8_shift_106 : decode cX8_shift 106 = .ok (.i2l, 1) := by decide +kernel
theorem dX8_shift_107 : decode cX8_shift 107 = .ok (.iload 5, 2) := by decide +kernel
theorem dX8_shift_109 : decode cX8_shift 109 = .ok (.i2l, 1) := by decide +kernel
theorem dX8_shift_110 : decode cX8_shift 110 = .ok (.ladd, 1) := by decide +kernel
theorem dX8_shift_111 : decode cX8_shift 111 = .ok (.aload_n 0, 1) := by decide +kernel
theorem dX8_shift_112 : decode cX8_shift 112 = .ok (.getfield 90, 3) := by decide +kernel
theorem dX8_shift_115 : decode cX8_shift 115 = .ok (.iload_n 3, 1) := by decide +kernel
theorem dX8_shift_116 : decode cX8_shift 116 = .ok (.iaload, 1) := by decide +kernel
theorem dX8_shift_117 : decode cX8_shift 117 = .ok (.i2l, 1) := by decide +kernel
theorem dX8_shift_118 : decode cX8_shift 118 = .ok (.lcmp, 1) := by decide +kernel
theorem dX8_shift_119 : decode cX8_shift 119 = .ok (.ifCond .le 6, 3) := by decide +kernel
theorem dX8_shift_122 : decode cX8_shift 122 = .ok (.bipush (-13), 2) := by decide +kernel
theorem dX8_shift_124 : decode cX8_shift 124 = .ok (.ireturn, 1) := by decide +kernel
theorem dX8_shift_125 : decode cX8_shift 125 = .ok (.iload_n 1, 1) := by decide +kernel
theorem dX8_shift_126 : decode cX8_shift 126 = .ok (.iload_n 3, 1) := by decide +kernel
theorem dX8_shift_127 : decode cX8_shift 127 = .ok (.if_icmp .ne 58, 3) := by decide +kernel
theorem dX8_shift_130 : decode cX8_shift 130 = .ok (.iload_n 2, 1) := by decide +kernel
theorem dX8_shift_131 : decode cX8_shift 131 = .ok (.iload 4, 2) := by decide +kernel
theorem dX8_shift_133 : decode cX8_shift 133 = .ok (.if_icmp .ge 52, 3) := by decide +kernel
theorem dX8_shift_136 : decode cX8_shift 136 = .ok (.iload 5, 2) := by decide +kernel
theorem dX8_shift_138 : decode cX8_shift 138 = .ok (.iconst 1, 1) := by decide +kernel
theorem dX8_shift_139 : decode cX8_shift 139 = .ok (.isub, 1) := by decide +kernel
theorem dX8_shift_140 : decode cX8_shift 140 = .ok (.istore 6, 2) := by decide +kernel
theorem dX8_shift_142 : decode cX8_shift 142 = .ok (.iload 6, 2) := by decide +kernel
theorem dX8_shift_144 : decode cX8_shift 144 = .ok (.ifCond .lt 38, 3) := by decide +kernel
theorem dX8_shift_147 : decode cX8_shift 147 = .ok (.aload_n 0, 1) := by decide +kernel
theorem dX8_shift_148 : decode cX8_shift 148 = .ok (.getfield 93, 3) := by decide +kernel
theorem dX8_shift_151 : decode cX8_shift 151 = .ok (.bipush 60, 2) := by decide +kernel
theorem dX8_shift_153 : decode cX8_shift 153 = .ok (.iload_n 3, 1) := by decide +kernel
theorem dX8_shift_154 : decode cX8_shift 154 = .ok (.imul, 1) := by decide +kernel
theorem dX8_shift_155 : decode cX8_shift 155 = .ok (.iload 4, 2) := by decide +kernel
theorem dX8_shift_157 : decode cX8_shift 157 = .ok (.iadd, 1) := by decide +kernel
theorem dX8_shift_158 : decode cX8_shift 158 = .ok (.iload 6, 2) := by decide +kernel
theorem dX8_shift_160 : decode cX8_shift 160 = .ok (.iadd, 1) := by decide +kernel
theorem dX8_shift_161 : decode cX8_shift 161 = .ok (.aload_n 0, 1) := by decide +kernel
theorem dX8_shift_162 : decode cX8_shift 162 = .ok (.getfield 93, 3) := by decide +kernel
theorem dX8_shift_165 : decode cX8_shift 165 = .ok (.bipush 60, 2) := by decide +kernel
theorem dX8_shift_167 : decode cX8_shift 167 = .ok (.iload_n 1, 1) := by decide +kernel
theorem dX8_shift_168 : decode cX8_shift 168 = .ok (.imul, 1) := by decide +kernel
theorem dX8_shift_169 : decode cX8_shift 169 = .ok (.iload_n 2, 1) := by decide +kernel
theorem dX8_shift_170 : decode cX8_shift 170 = .ok (.iadd, 1) := by decide +kernel
theorem dX8_shift_171 : decode cX8_shift 171 = .ok (.iload 6, 2) := by decide +kernel
theorem dX8_shift_173 : decode cX8_shift 173 = .ok (.iadd, 1) := by decide +kernel
theorem dX8_shift_174 : decode cX8_shift 174 = .ok (.laload, 1) := by decide +kernel
theorem dX8_shift_175 : decode cX8_shift 175 = .ok (.lastore, 1) := by decide +kernel
theorem dX8_shift_176 : decode cX8_shift 176 = .ok (.iinc 6 (-1), 3) := by decide +kernel
theorem dX8_shift_179 : decode cX8_shift 179 = .ok (.goto (-37), 3) := by decide +kernel
theorem dX8_shift_182 : decode cX8_shift 182 = .ok (.goto 48, 3) := by decide +kernel
theorem dX8_shift_185 : decode cX8_shift 185 = .ok (.iconst 0, 1) := by decide +kernel
theorem dX8_shift_186 : decode cX8_shift 186 = .ok (.istore 6, 2) := by decide +kernel
theorem dX8_shift_188 : decode cX8_shift 188 = .ok (.iload 6, 2) := by decide +kernel
theorem dX8_shift_190 : decode cX8_shift 190 = .ok (.iload 5, 2) := by decide +kernel
theorem dX8_shift_192 : decode cX8_shift 192 = .ok (.if_icmp .ge 38, 3) := by decide +kernel
theorem dX8_shift_195 : decode cX8_shift 195 = .ok (.aload_n 0, 1) := by decide +kernel
theorem dX8_shift_196 : decode cX8_shift 196 = .ok (.getfield 93, 3) := by decide +kernel
theorem dX8_shift_199 : decode cX8_shift 199 = .ok (.bipush 60, 2) := by decide +kernel
theorem dX8_shift_201 : decode cX8_shift 201 = .ok (.iload_n 3, 1) := by decide +kernel
theorem dX8_shift_202 : decode cX8_shift 202 = .ok (.imul, 1) := by decide +kernel
theorem dX8_shift_203 : decode cX8_shift 203 = .ok (.iload 4, 2) := by decide +kernel
theorem dX8_shift_205 : decode cX8_shift 205 = .ok (.iadd, 1) := by decide +kernel
theorem dX8_shift_206 : decode cX8_shift 206 = .ok (.iload 6, 2) := by decide +kernel
theorem dX8_shift_208 : decode cX8_shift 208 = .ok (.iadd, 1) := by decide +kernel
theorem dX8_shift_209 : decode cX8_shift 209 = .ok (.aload_n 0, 1) := by decide +kernel
theorem dX8_shift_210 : decode cX8_shift 210 = .ok (.getfield 93, 3) := by decide +kernel
theorem dX8_shift_213 : decode cX8_shift 213 = .ok (.bipush 60, 2) := by decide +kernel
theorem dX8_shift_215 : decode cX8_shift 215 = .ok (.iload_n 1, 1) := by decide +kernel
theorem dX8_shift_216 : decode cX8_shift 216 = .ok (.imul, 1) := by decide +kernel
theorem dX8_shift_217 : decode cX8_shift 217 = .ok (.iload_n 2, 1) := by decide +kernel
theorem dX8_shift_218 : decode cX8_shift 218 = .ok (.iadd, 1) := by decide +kernel
theorem dX8_shift_219 : decode cX8_shift 219 = .ok (.iload 6, 2) := by decide +kernel
theorem dX8_shift_221 : decode cX8_shift 221 = .ok (.iadd, 1) := by decide +kernel
theorem dX8_shift_222 : decode cX8_shift 222 = .ok (.laload, 1) := by decide +kernel
theorem dX8_shift_223 : decode cX8_shift 223 = .ok (.lastore, 1) := by decide +kernel
theorem dX8_shift_224 : decode cX8_shift 224 = .ok (.iinc 6 1, 3) := by decide +kernel
theorem dX8_shift_227 : decode cX8_shift 227 = .ok (.goto (-39), 3) := by decide +kernel
theorem dX8_shift_230 : decode cX8_shift 230 = .ok (.iload 5, 2) := by decide +kernel
theorem dX8_shift_232 : decode cX8_shift 232 = .ok (.ireturn, 1) := by decide +kernel
theorem dX8_taken_0 : decode cX8_taken 0 = .ok (.iload_n 1, 1) := by decide +kernel
theorem dX8_taken_1 : decode cX8_taken 1 = .ok (.invokestatic 137, 3) := by decide +kernel
theorem dX8_taken_4 : decode cX8_taken 4 = .ok (.ifCond .eq 13, 3) := by decide +kernel
theorem dX8_taken_7 : decode cX8_taken 7 = .ok (.iload_n 2, 1) := by decide +kernel
theorem dX8_taken_8 : decode cX8_taken 8 = .ok (.iconst 0, 1) := by decide +kernel
theorem dX8_taken_9 : decode cX8_taken 9 = .ok (.bipush 7, 2) := by decide +kernel
theorem dX8_taken_11 : decode cX8_taken 11 = .ok (.invokestatic 109, 3) := by decide +kernel
theorem dX8_taken_14 : decode cX8_taken 14 = .ok (.ifCond .ne 5, 3) := by decide +kernel
theorem dX8_taken_17 : decode cX8_taken 17 = .ok (.iconst (-1), 1) := by decide +kernel
theorem dX8_taken_18 : decode cX8_taken 18 = .ok (.ireturn, 1) := by decide +kernel
theorem dX8_taken_19 : decode cX8_taken 19 = .ok (.aload_n 0, 1) := by decide +kernel
theorem dX8_taken_20 : decode cX8_taken 20 = .ok (.getfield 87, 3) := by decide +kernel
theorem dX8_taken_23 : decode cX8_taken 23 = .ok (.iload_n 1, 1) := by decide +kernel
theorem dX8_taken_24 : decode cX8_taken 24 = .ok (.iaload, 1) := by decide +kernel
theorem dX8_taken_25 : decode cX8_taken 25 = .ok (.iconst (-1), 1) := by decide +kernel
theorem dX8_taken_26 : decode cX8_taken 26 = .ok (.if_icmp .ne 6, 3) := by decide +kernel
theorem dX8_taken_29 : decode cX8_taken 29 = .ok (.bipush (-11), 2) := by decide +kernel
theorem dX8_taken_31 : decode cX8_taken 31 = .ok (.ireturn, 1) := by decide +kernel
theorem dX8_taken_32 : decode cX8_taken 32 = .ok (.aload_n 0, 1) := by decide +kernel
theorem dX8_taken_33 : decode cX8_taken 33 = .ok (.iload_n 1, 1) := by decide +kernel
theorem dX8_taken_34 : decode cX8_taken 34 = .ok (.invokevirtual 352, 3) := by decide +kernel
theorem dX8_taken_37 : decode cX8_taken 37 = .ok (.ifCond .eq 6, 3) := by decide +kernel
theorem dX8_taken_40 : decode cX8_taken 40 = .ok (.bipush (-12), 2) := by decide +kernel
theorem dX8_taken_42 : decode cX8_taken 42 = .ok (.ireturn, 1) := by decide +kernel
theorem dX8_taken_43 : decode cX8_taken 43 = .ok (.aload_n 0, 1) := by decide +kernel
theorem dX8_taken_44 : decode cX8_taken 44 = .ok (.getfield 81, 3) := by decide +kernel
theorem dX8_taken_47 : decode cX8_taken 47 = .ok (.aload_n 0, 1) := by decide +kernel
theorem dX8_taken_48 : decode cX8_taken 48 = .ok (.getfield 87, 3) := by decide +kernel
theorem dX8_taken_51 : decode cX8_taken 51 = .ok (.iload_n 1, 1) := by decide +kernel
theorem dX8_taken_52 : decode cX8_taken 52 = .ok (.iaload, 1) := by decide +kernel
theorem dX8_taken_53 : decode cX8_taken 53 = .ok (.bipush 10, 2) := by decide +kernel
theorem dX8_taken_55 : decode cX8_taken 55 = .ok (.isub, 1) := by decide +kernel
theorem dX8_taken_56 : decode cX8_taken 56 = .ok (.iaload, 1) := by decide +kernel
theorem dX8_taken_57 : decode cX8_taken 57 = .ok (.istore_n 3, 1) := by decide +kernel
theorem dX8_taken_58 : decode cX8_taken 58 = .ok (.iload_n 3, 1) := by decide +kernel
theorem dX8_taken_59 : decode cX8_taken 59 = .ok (.istore 4, 2) := by decide +kernel
theorem dX8_taken_61 : decode cX8_taken 61 = .ok (.iload 4, 2) := by decide +kernel
theorem dX8_taken_63 : decode cX8_taken 63 = .ok (.iload_n 2, 1) := by decide +kernel
theorem dX8_taken_64 : decode cX8_taken 64 = .ok (.if_icmp .eq 18, 3) := by decide +kernel
theorem dX8_taken_67 : decode cX8_taken 67 = .ok (.iload 4, 2) := by decide +kernel
theorem dX8_taken_69 : decode cX8_taken 69 = .ok (.ifCond .le 13, 3) := by decide +kernel
theorem dX8_taken_72 : decode cX8_taken 72 = .ok (.iload 4, 2) := by decide +kernel
theorem dX8_taken_74 : decode cX8_taken 74 = .ok (.invokestatic 337, 3) := by decide +kernel
theorem dX8_taken_77 : decode cX8_taken 77 = .ok (.istore 4, 2) := by decide +kernel
theorem dX8_taken_79 : decode cX8_taken 79 = .ok (.goto (-18), 3) := by decide +kernel
theorem dX8_taken_82 : decode cX8_taken 82 = .ok (.iload 4, 2) := by decide +kernel
theorem dX8_taken_84 : decode cX8_taken 84 = .ok (.iload_n 2, 1) := by decide +kernel
theorem dX8_taken_85 : decode cX8_taken 85 = .ok (.if_icmp .ne 7, 3) := by decide +kernel
theorem dX8_taken_88 : decode cX8_taken 88 = .ok (.iload_n 3, 1) := by decide +kernel
theorem dX8_taken_89 : decode cX8_taken 89 = .ok (.goto 5, 3) := by decide +kernel
theorem dX8_taken_92 : decode cX8_taken 92 = .ok (.bipush (-12), 2) := by decide +kernel
theorem dX8_taken_94 : decode cX8_taken 94 = .ok (.ireturn, 1) := by decide +kernel
theorem dX8_count_0 : decode cX8_count 0 = .ok (.iload_n 1, 1) := by decide +kernel
theorem dX8_count_1 : decode cX8_count 1 = .ok (.tableswitch 69 0 5 #[39, 44, 49, 54, 59, 64], 39) := by decide +kernel
theorem dX8_count_40 : decode cX8_count 40 = .ok (.aload_n 0, 1) := by decide +kernel
theorem dX8_count_41 : decode cX8_count 41 = .ok (.getfield 113, 3) := by decide +kernel
theorem dX8_count_44 : decode cX8_count 44 = .ok (.ireturn, 1) := by decide +kernel
theorem dX8_count_45 : decode cX8_count 45 = .ok (.aload_n 0, 1) := by decide +kernel
theorem dX8_count_46 : decode cX8_count 46 = .ok (.getfield 117, 3) := by decide +kernel
theorem dX8_count_49 : decode cX8_count 49 = .ok (.ireturn, 1) := by decide +kernel
theorem dX8_count_50 : decode cX8_count 50 = .ok (.aload_n 0, 1) := by decide +kernel
theorem dX8_count_51 : decode cX8_count 51 = .ok (.getfield 170, 3) := by decide +kernel
theorem dX8_count_54 : decode cX8_count 54 = .ok (.ireturn, 1) := by decide +kernel
theorem dX8_count_55 : decode cX8_count 55 = .ok (.aload_n 0, 1) := by decide +kernel
theorem dX8_count_56 : decode cX8_count 56 = .ok (.getfield 164, 3) := by decide +kernel
theorem dX8_count_59 : decode cX8_count 59 = .ok (.ireturn, 1) := by decide +kernel
theorem dX8_count_60 : decode cX8_count 60 = .ok (.aload_n 0, 1) := by decide +kernel
theorem dX8_count_61 : decode cX8_count 61 = .ok (.getfield 349, 3) := by decide +kernel
theorem dX8_count_64 : decode cX8_count 64 = .ok (.ireturn, 1) := by decide +kernel
theorem dX8_count_65 : decode cX8_count 65 = .ok (.aload_n 0, 1) := by decide +kernel
theorem dX8_count_66 : decode cX8_count 66 = .ok (.getfield 327, 3) := by decide +kernel
theorem dX8_count_69 : decode cX8_count 69 = .ok (.ireturn, 1) := by decide +kernel
theorem dX8_count_70 : decode cX8_count 70 = .ok (.iconst (-1), 1) := by decide +kernel
theorem dX8_count_71 : decode cX8_count 71 = .ok (.ireturn, 1) := by decide +kernel
theorem dJ6_bitCount_0f7a4_0 : decode cJ6_bitCount_0f7a4 0 = .ok (.iload_n 0, 1) := by decide +kernel
theorem dJ6_bitCount_0f7a4_1 : decode cJ6_bitCount_0f7a4 1 = .ok (.iload_n 0, 1) := by decide +kernel
theorem dJ6_bitCount_0f7a4_2 : decode cJ6_bitCount_0f7a4 2 = .ok (.iconst 1, 1) := by decide +kernel
theorem dJ6_bitCount_0f7a4_3 : decode cJ6_bitCount_0f7a4 3 = .ok (.iushr, 1) := by decide +kernel
theorem dJ6_bitCount_0f7a4_4 : decode cJ6_bitCount_0f7a4 4 = .ok (.ldc_w 265, 3) := by decide +kernel
theorem dJ6_bitCount_0f7a4_7 : decode cJ6_bitCount_0f7a4 7 = .ok (.iand, 1) := by decide +kernel
theorem dJ6_bitCount_0f7a4_8 : decode cJ6_bitCount_0f7a4 8 = .ok (.isub, 1) := by decide +kernel
theorem dJ6_bitCount_0f7a4_9 : decode cJ6_bitCount_0f7a4 9 = .ok (.istore_n 0, 1) := by decide +kernel
theorem dJ6_bitCount_0f7a4_10 : decode cJ6_bitCount_0f7a4 10 = .ok (.iload_n 0, 1) := by decide +kernel
theorem dJ6_bitCount_0f7a4_11 : decode cJ6_bitCount_0f7a4 11 = .ok (.ldc_w 266, 3) := by decide +kernel
theorem dJ6_bitCount_0f7a4_14 : decode cJ6_bitCount_0f7a4 14 = .ok (.iand, 1) := by decide +kernel
theorem dJ6_bitCount_0f7a4_15 : decode cJ6_bitCount_0f7a4 15 = .ok (.iload_n 0, 1) := by decide +kernel
theorem dJ6_bitCount_0f7a4_16 : decode cJ6_bitCount_0f7a4 16 = .ok (.iconst 2, 1) := by decide +kernel
theorem dJ6_bitCount_0f7a4_17 : decode cJ6_bitCount_0f7a4 17 = .ok (.iushr, 1) := by decide +kernel
theorem dJ6_bitCount_0f7a4_18 : decode cJ6_bitCount_0f7a4 18 = .ok (.ldc_w 266, 3) := by decide +kernel
theorem dJ6_bitCount_0f7a4_21 : decode cJ6_bitCount_0f7a4 21 = .ok (.iand, 1) := by decide +kernel
theorem dJ6_bitCount_0f7a4_22 : decode cJ6_bitCount_0f7a4 22 = .ok (.iadd, 1) := by decide +kernel
theorem dJ6_bitCount_0f7a4_23 : decode cJ6_bitCount_0f7a4 23 = .ok (.istore_n 0, 1) := by decide +kernel
theorem dJ6_bitCount_0f7a4_24 : decode cJ6_bitCount_0f7a4 24 = .ok (.iload_n 0, 1) := by decide +kernel
theorem dJ6_bitCount_0f7a4_25 : decode cJ6_bitCount_0f7a4 25 = .ok (.iload_n 0, 1) := by decide +kernel
theorem dJ6_bitCount_0f7a4_26 : decode cJ6_bitCount_0f7a4 26 = .ok (.iconst 4, 1) := by decide +kernel
theorem dJ6_bitCount_0f7a4_27 : decode cJ6_bitCount_0f7a4 27 = .ok (.iushr, 1) := by decide +kernel
theorem dJ6_bitCount_0f7a4_28 : decode cJ6_bitCount_0f7a4 28 = .ok (.iadd, 1) := by decide +kernel
theorem dJ6_bitCount_0f7a4_29 : decode cJ6_bitCount_0f7a4 29 = .ok (.ldc_w 267, 3) := by decide +kernel
theorem dJ6_bitCount_0f7a4_32 : decode cJ6_bitCount_0f7a4 32 = .ok (.iand, 1) := by decide +kernel
theorem dJ6_bitCount_0f7a4_33 : decode cJ6_bitCount_0f7a4 33 = .ok (.istore_n 0, 1) := by decide +kernel
theorem dJ6_bitCount_0f7a4_34 : decode cJ6_bitCount_0f7a4 34 = .ok (.iload_n 0, 1) := by decide +kernel
theorem dJ6_bitCount_0f7a4_35 : decode cJ6_bitCount_0f7a4 35 = .ok (.iload_n 0, 1) := by decide +kernel
theorem dJ6_bitCount_0f7a4_36 : decode cJ6_bitCount_0f7a4 36 = .ok (.bipush 8, 2) := by decide +kernel
theorem dJ6_bitCount_0f7a4_38 : decode cJ6_bitCount_0f7a4 38 = .ok (.iushr, 1) := by decide +kernel
theorem dJ6_bitCount_0f7a4_39 : decode cJ6_bitCount_0f7a4 39 = .ok (.iadd, 1) := by decide +kernel
theorem dJ6_bitCount_0f7a4_40 : decode cJ6_bitCount_0f7a4 40 = .ok (.istore_n 0, 1) := by decide +kernel
theorem dJ6_bitCount_0f7a4_41 : decode cJ6_bitCount_0f7a4 41 = .ok (.iload_n 0, 1) := by decide +kernel
theorem dJ6_bitCount_0f7a4_42 : decode cJ6_bitCount_0f7a4 42 = .ok (.iload_n 0, 1) := by decide +kernel
theorem dJ6_bitCount_0f7a4_43 : decode cJ6_bitCount_0f7a4 43 = .ok (.bipush 16, 2) := by decide +kernel
theorem dJ6_bitCount_0f7a4_45 : decode cJ6_bitCount_0f7a4 45 = .ok (.iushr, 1) := by decide +kernel
theorem dJ6_bitCount_0f7a4_46 : decode cJ6_bitCount_0f7a4 46 = .ok (.iadd, 1) := by decide +kernel
theorem dJ6_bitCount_0f7a4_47 : decode cJ6_bitCount_0f7a4 47 = .ok (.istore_n 0, 1) := by decide +kernel
theorem dJ6_bitCount_0f7a4_48 : decode cJ6_bitCount_0f7a4 48 = .ok (.iload_n 0, 1) := by decide +kernel
theorem dJ6_bitCount_0f7a4_49 : decode cJ6_bitCount_0f7a4 49 = .ok (.bipush 63, 2) := by decide +kernel
theorem dJ6_bitCount_0f7a4_51 : decode cJ6_bitCount_0f7a4 51 = .ok (.iand, 1) := by decide +kernel
theorem dJ6_bitCount_0f7a4_52 : decode cJ6_bitCount_0f7a4 52 = .ok (.ireturn, 1) := by decide +kernel
theorem dJ9_abs_0f7a4_0 : decode cJ9_abs_0f7a4 0 = .ok (.iload_n 0, 1) := by decide +kernel
theorem dJ9_abs_0f7a4_1 : decode cJ9_abs_0f7a4 1 = .ok (.ifCond .ge 8, 3) := by decide +kernel
theorem dJ9_abs_0f7a4_4 : decode cJ9_abs_0f7a4 4 = .ok (.iload_n 0, 1) := by decide +kernel
theorem dJ9_abs_0f7a4_5 : decode cJ9_abs_0f7a4 5 = .ok (.ineg, 1) := by decide +kernel
theorem dJ9_abs_0f7a4_6 : decode cJ9_abs_0f7a4 6 = .ok (.goto 4, 3) := by decide +kernel
theorem dJ9_abs_0f7a4_9 : decode cJ9_abs_0f7a4 9 = .ok (.iload_n 0, 1) := by decide +kernel
theorem dJ9_abs_0f7a4_10 : decode cJ9_abs_0f7a4 10 = .ok (.ireturn, 1) := by decide +kernel
theorem dJ9_max_7cf53_0 : decode cJ9_max_7cf53 0 = .ok (.iload_n 0, 1) := by decide +kernel
theorem dJ9_max_7cf53_1 : decode cJ9_max_7cf53 1 = .ok (.iload_n 1, 1) := by decide +kernel
theorem dJ9_max_7cf53_2 : decode cJ9_max_7cf53 2 = .ok (.if_icmp .lt 7, 3) := by decide +kernel
theorem dJ9_max_7cf53_5 : decode cJ9_max_7cf53 5 = .ok (.iload_n 0, 1) := by decide +kernel
theorem dJ9_max_7cf53_6 : decode cJ9_max_7cf53 6 = .ok (.goto 4, 3) := by decide +kernel
theorem dJ9_max_7cf53_9 : decode cJ9_max_7cf53 9 = .ok (.iload_n 1, 1) := by decide +kernel
theorem dJ9_max_7cf53_10 : decode cJ9_max_7cf53 10 = .ok (.ireturn, 1) := by decide +kernel
theorem dJ9_min_7cf53_0 : decode cJ9_min_7cf53 0 = .ok (.iload_n 0, 1) := by decide +kernel
theorem dJ9_min_7cf53_1 : decode cJ9_min_7cf53 1 = .ok (.iload_n 1, 1) := by decide +kernel
theorem dJ9_min_7cf53_2 : decode cJ9_min_7cf53 2 = .ok (.if_icmp .gt 7, 3) := by decide +kernel
theorem dJ9_min_7cf53_5 : decode cJ9_min_7cf53 5 = .ok (.iload_n 0, 1) := by decide +kernel
theorem dJ9_min_7cf53_6 : decode cJ9_min_7cf53 6 = .ok (.goto 4, 3) := by decide +kernel
theorem dJ9_min_7cf53_9 : decode cJ9_min_7cf53 9 = .ok (.iload_n 1, 1) := by decide +kernel
theorem dJ9_min_7cf53_10 : decode cJ9_min_7cf53 10 = .ok (.ireturn, 1) := by decide +kernel
theorem dJ7_fill_d0a16_0 : decode cJ7_fill_d0a16 0 = .ok (.iconst 0, 1) := by decide +kernel
theorem dJ7_fill_d0a16_1 : decode cJ7_fill_d0a16 1 = .ok (.istore_n 3, 1) := by decide +kernel
theorem dJ7_fill_d0a16_2 : decode cJ7_fill_d0a16 2 = .ok (.aload_n 0, 1) := by decide +kernel
theorem dJ7_fill_d0a16_3 : decode cJ7_fill_d0a16 3 = .ok (.arraylength, 1) := by decide +kernel
theorem dJ7_fill_d0a16_4 : decode cJ7_fill_d0a16 4 = .ok (.istore 4, 2) := by decide +kernel
theorem dJ7_fill_d0a16_6 : decode cJ7_fill_d0a16 6 = .ok (.iload_n 3, 1) := by decide +kernel
theorem dJ7_fill_d0a16_7 : decode cJ7_fill_d0a16 7 = .ok (.iload 4, 2) := by decide +kernel
theorem dJ7_fill_d0a16_9 : decode cJ7_fill_d0a16 9 = .ok (.if_icmp .ge 13, 3) := by decide +kernel
theorem dJ7_fill_d0a16_12 : decode cJ7_fill_d0a16 12 = .ok (.aload_n 0, 1) := by decide +kernel
theorem dJ7_fill_d0a16_13 : decode cJ7_fill_d0a16 13 = .ok (.iload_n 3, 1) := by decide +kernel
theorem dJ7_fill_d0a16_14 : decode cJ7_fill_d0a16 14 = .ok (.lload_n 1, 1) := by decide +kernel
theorem dJ7_fill_d0a16_15 : decode cJ7_fill_d0a16 15 = .ok (.lastore, 1) := by decide +kernel
theorem dJ7_fill_d0a16_16 : decode cJ7_fill_d0a16 16 = .ok (.iinc 3 1, 3) := by decide +kernel
theorem dJ7_fill_d0a16_19 : decode cJ7_fill_d0a16 19 = .ok (.goto (-13), 3) := by decide +kernel
theorem dJ7_fill_d0a16_22 : decode cJ7_fill_d0a16 22 = .ok (.return_, 1) := by decide +kernel
theorem dJ7_fill_53178_0 : decode cJ7_fill_53178 0 = .ok (.iconst 0, 1) := by decide +kernel
theorem dJ7_fill_53178_1 : decode cJ7_fill_53178 1 = .ok (.istore_n 2, 1) := by decide +kernel
theorem dJ7_fill_53178_2 : decode cJ7_fill_53178 2 = .ok (.aload_n 0, 1) := by decide +kernel
theorem dJ7_fill_53178_3 : decode cJ7_fill_53178 3 = .ok (.arraylength, 1) := by decide +kernel
theorem dJ7_fill_53178_4 : decode cJ7_fill_53178 4 = .ok (.istore_n 3, 1) := by decide +kernel
theorem dJ7_fill_53178_5 : decode cJ7_fill_53178 5 = .ok (.iload_n 2, 1) := by decide +kernel
theorem dJ7_fill_53178_6 : decode cJ7_fill_53178 6 = .ok (.iload_n 3, 1) := by decide +kernel
theorem dJ7_fill_53178_7 : decode cJ7_fill_53178 7 = .ok (.if_icmp .ge 13, 3) := by decide +kernel
theorem dJ7_fill_53178_10 : decode cJ7_fill_53178 10 = .ok (.aload_n 0, 1) := by decide +kernel
theorem dJ7_fill_53178_11 : decode cJ7_fill_53178 11 = .ok (.iload_n 2, 1) := by decide +kernel
theorem dJ7_fill_53178_12 : decode cJ7_fill_53178 12 = .ok (.iload_n 1, 1) := by decide +kernel
theorem dJ7_fill_53178_13 : decode cJ7_fill_53178 13 = .ok (.iastore, 1) := by decide +kernel
theorem dJ7_fill_53178_14 : decode cJ7_fill_53178 14 = .ok (.iinc 2 1, 3) := by decide +kernel
theorem dJ7_fill_53178_17 : decode cJ7_fill_53178 17 = .ok (.goto (-12), 3) := by decide +kernel
theorem dJ7_fill_53178_20 : decode cJ7_fill_53178 20 = .ok (.return_, 1) := by decide +kernel
theorem dL_law_0 : decode cL_law 0 = .ok (.new 7, 3) := by decide +kernel
theorem dL_law_3 : decode cL_law 3 = .ok (.dup, 1) := by decide +kernel
theorem dL_law_4 : decode cL_law 4 = .ok (.invokespecial 9, 3) := by decide +kernel
theorem dL_law_7 : decode cL_law 7 = .ok (.astore_n 1, 1) := by decide +kernel
theorem dL_law_8 : decode cL_law 8 = .ok (.new 10, 3) := by decide +kernel
theorem dL_law_11 : decode cL_law 11 = .ok (.dup, 1) := by decide +kernel
theorem dL_law_12 : decode cL_law 12 = .ok (.invokespecial 12, 3) := by decide +kernel
theorem dL_law_15 : decode cL_law 15 = .ok (.astore_n 2, 1) := by decide +kernel
theorem dL_law_16 : decode cL_law 16 = .ok (.iconst 0, 1) := by decide +kernel
theorem dL_law_17 : decode cL_law 17 = .ok (.istore_n 3, 1) := by decide +kernel
theorem dL_law_18 : decode cL_law 18 = .ok (.iload_n 3, 1) := by decide +kernel
theorem dL_law_19 : decode cL_law 19 = .ok (.aload_n 0, 1) := by decide +kernel
theorem dL_law_20 : decode cL_law 20 = .ok (.arraylength, 1) := by decide +kernel
theorem dL_law_21 : decode cL_law 21 = .ok (.bipush 6, 2) := by decide +kernel
theorem dL_law_23 : decode cL_law 23 = .ok (.isub, 1) := by decide +kernel
theorem dL_law_24 : decode cL_law 24 = .ok (.if_icmp .gt 1475, 3) := by decide +kernel
theorem dL_law_27 : decode cL_law 27 = .ok (.aload_n 0, 1) := by decide +kernel
theorem dL_law_28 : decode cL_law 28 = .ok (.iload_n 3, 1) := by decide +kernel
theorem dL_law_29 : decode cL_law 29 = .ok (.iaload, 1) := by decide +kernel
theorem dL_law_30 : decode cL_law 30 = .ok (.bipush 63, 2) := by decide +kernel
theorem dL_law_32 : decode cL_law 32 = .ok (.iand, 1) := by decide +kernel
theorem dL_law_33 : decode cL_law 33 = .ok (.tableswitch 1460 0 41 #[183, 206, 239, 282, 325, 358, 381, 394, 427, 470, 513, 536, 559, 582, 605, 618, 641, 674, 697, 720, 753, 806, 849, 892, 925, 948, 971, 994, 1017, 1030, 1043, 1056, 1069, 1092, 1135, 1158, 1191, 1234, 1307, 1341, 1404, 1437], 183) := by decide +kernel
theorem dL_law_216 : decode cL_law 216 = .ok (.aload_n 1, 1) := by decide +kernel
theorem dL_law_217 : decode cL_law 217 = .ok (.aload_n 0, 1) := by decide +kernel
theorem dL_law_218 : decode cL_law 218 = .ok (.iload_n 3, 1) := by decide +kernel
theorem dL_law_219 : decode cL_law 219 = .ok (.iconst 1, 1) := by decide +kernel
theorem dL_law_220 : decode cL_law 220 = .ok (.iadd, 1) := by decide +kernel
theorem dL_law_221 : decode cL_law 221 = .ok (.iaload, 1) := by decide +kernel
theorem dL_law_222 : decode cL_law 222 = .ok (.invokevirtual 13, 3) := by decide +kernel
theorem dL_law_225 : decode cL_law 225 = .ok (.aload_n 2, 1) := by decide +kernel
theorem dL_law_226 : decode cL_law 226 = .ok (.aload_n 0, 1) := by decide +kernel
theorem dL_law_227 : decode cL_law 227 = .ok (.iload_n 3, 1) := by decide +kernel
theorem dL_law_228 : decode cL_law 228 = .ok (.iconst 1, 1) := by decide +kernel
theorem dL_law_229 : decode cL_law 229 = .ok (.iadd, 1) := by decide +kernel
theorem dL_law_230 : decode cL_law 230 = .ok (.iaload, 1) := by decide +kernel
theorem dL_law_231 : decode cL_law 231 = .ok (.invokevirtual 17, 3) := by decide +kernel
theorem dL_law_234 : decode cL_law 234 = .ok (.if_icmp .eq 1259, 3) := by decide +kernel
theorem dL_law_237 : decode cL_law 237 = .ok (.iconst 0, 1) := by decide +kernel
theorem dL_law_238 : decode cL_law 238 = .ok (.ireturn, 1) := by decide +kernel
theorem dL_law_239 : decode cL_law 239 = .ok (.aload_n 1, 1) := by decide +kernel
theorem dL_law_240 : decode cL_law 240 = .ok (.aload_n 0, 1) := by decide +kernel
theorem dL_law_241 : decode cL_law 241 = .ok (.iload_n 3, 1) := by decide +kernel
theorem dL_law_242 : decode cL_law 242 = .ok (.iconst 1, 1) := by decide +kernel
theorem dL_law_243 : decode cL_law 243 = .ok (.iadd, 1) := by decide +kernel
theorem dL_law_244 : decode cL_law 244 = .ok (.iaload, 1) := by decide +kernel
theorem dL_law_245 : decode cL_law 245 = .ok (.aload_n 0, 1) := by decide +kernel
theorem dL_law_246 : decode cL_law 246 = .ok (.iload_n 3, 1) := by decide +kernel
theorem dL_law_247 : decode cL_law 247 = .ok (.iconst 2, 1) := by decide +kernel
theorem dL_law_248 : decode cL_law 248 = .ok (.iadd, 1) := by decide +kernel
theorem dL_law_249 : decode cL_law 249 = .ok (.iaload, 1) := by decide +kernel
theorem dL_law_250 : decode cL_law 250 = .ok (.invokevirtual 18, 3) := by decide +kernel
theorem dL_law_253 : decode cL_law 253 = .ok (.aload_n 2, 1) := by decide +kernel
theorem dL_law_254 : decode cL_law 254 = .ok (.aload_n 0, 1) := by decide +kernel
theorem dL_law_255 : decode cL_law 255 = .ok (.iload_n 3, 1) := by decide +kernel
theorem dL_law_256 : decode cL_law 256 = .ok (.iconst 1, 1) := by decide +kernel
theorem dL_law_257 : decode cL_law 257 = .ok (.iadd, 1) := by decide +kernel
theorem dL_law_258 : decode cL_law 258 = .ok (.iaload, 1) := by decide +kernel
theorem dL_law_259 : decode cL_law 259 = .ok (.aload_n 0, 1) := by decide +kernel
theorem dL_law_260 : decode cL_law 260 = .ok (.iload_n 3, 1) := by decide +kernel
theorem dL_law_261 : decode cL_law 261 = .ok (.iconst 2, 1) := by decide +kernel
theorem dL_law_262 : decode cL_law 262 = .ok (.iadd, 1) := by decide +kernel
theorem dL_law_263 : decode cL_law 263 = .ok (.iaload, 1) := by decide +kernel
theorem dL_law_264 : decode cL_law 264 = .ok (.invokevirtual 22, 3) := by decide +kernel
theorem dL_law_267 : decode cL_law 267 = .ok (.if_icmp .eq 1226, 3) := by decide +kernel
theorem dL_law_270 : decode cL_law 270 = .ok (.iconst 0, 1) := by decide +kernel
theorem dL_law_271 : decode cL_law 271 = .ok (.ireturn, 1) := by decide +kernel
theorem dL_law_272 : decode cL_law 272 = .ok (.aload_n 1, 1) := by decide +kernel
theorem dL_law_273 : decode cL_law 273 = .ok (.aload_n 0, 1) := by decide +kernel
theorem dL_law_274 : decode cL_law 274 = .ok (.iload_n 3, 1) := by decide +kernel
theorem dL_law_275 : decode cL_law 275 = .ok (.iconst 1, 1) := by decide +kernel
theorem dL_law_276 : decode cL_law 276 = .ok (.iadd, 1) := by decide +kernel
theorem dL_law_277 : decode cL_law 277 = .ok (.iaload, 1) := by decide +kernel
theorem dL_law_278 : decode cL_law 278 = .ok (.aload_n 0, 1) := by decide +kernel
theorem dL_law_279 : decode cL_law 279 = .ok (.iload_n 3, 1) := by decide +kernel
theorem dL_law_280 : decode cL_law 280 = .ok (.iconst 2, 1) := by decide +kernel
theorem dL_law_281 : decode cL_law 281 = .ok (.iadd, 1) := by decide +kernel
theorem dL_law_282 : decode cL_law 282 = .ok (.iaload, 1) := by decide +kernel
theorem dL_law_283 : decode cL_law 283 = .ok (.aload_n 0, 1) := by decide +kernel
theorem dL_law_284 : decode cL_law 284 = .ok (.iload_n 3, 1) := by decide +kernel
theorem dL_law_285 : decode cL_law 285 = .ok (.iconst 3, 1) := by decide +kernel
theorem dL_law_286 : decode cL_law 286 = .ok (.iadd, 1) := by decide +kernel
theorem dL_law_287 : decode cL_law 287 = .ok (.iaload, 1) := by decide +kernel
theorem dL_law_288 : decode cL_law 288 = .ok (.invokevirtual 23, 3) := by decide +kernel
theorem dL_law_291 : decode cL_law 291 = .ok (.aload_n 2, 1) := by decide +kernel
theorem dL_law_292 : decode cL_law 292 = .ok (.aload_n 0, 1) := by decide +kernel
theorem dL_law_293 : decode cL_law 293 = .ok (.iload_n 3, 1) := by decide +kernel
theorem dL_law_294 : decode cL_law 294 = .ok (.iconst 1, 1) := by decide +kernel
theorem dL_law_295 : decode cL_law 295 = .ok (.iadd, 1) := by decide +kernel
theorem dL_law_296 : decode cL_law 296 = .ok (.iaload, 1) := by decide +kernel
theorem dL_law_297 : decode cL_law 297 = .ok (.aload_n 0, 1) := by decide +kernel
theorem dL_law_298 : decode cL_law 298 = .ok (.iload_n 3, 1) := by decide +kernel
theorem dL_law_299 : decode cL_law 299 = .ok (.iconst 2, 1) := by decide +kernel
theorem dL_law_300 : decode cL_law 300 = .ok (.iadd, 1) := by decide +kernel
theorem dL_law_301 : decode cL_law 301 = .ok (.iaload, 1) := by decide +kernel
theorem dL_law_302 : decode cL_law 302 = .ok (.aload_n 0, 1) := by decide +kernel
theorem dL_law_303 : decode cL_law 303 = .ok (.iload_n 3, 1) := by decide +kernel
theorem dL_law_304 : decode cL_law 304 = .ok (.iconst 3, 1) := by decide +kernel
theorem dL_law_305 : decode cL_law 305 = .ok (.iadd, 1) := by decide +kernel
theorem dL_law_306 : decode cL_law 306 = .ok (.iaload, 1) := by decide +kernel
theorem dL_law_307 : decode cL_law 307 = .ok (.invokevirtual 27, 3) := by decide +kernel
theorem dL_law_310 : decode cL_law 310 = .ok (.if_icmp .eq 1183, 3) := by decide +kernel
theorem dL_law_313 : decode cL_law 313 = .ok (.iconst 0, 1) := by decide +kernel
theorem dL_law_314 : decode cL_law 314 = .ok (.ireturn, 1) := by decide +kernel
theorem dL_law_315 : decode cL_law 315 = .ok (.aload_n 1, 1) := by decide +kernel
theorem dL_law_316 : decode cL_law 316 = .ok (.aload_n 0, 1) := by decide +kernel
theorem dL_law_317 : decode cL_law 317 = .ok (.iload_n 3, 1) := by decide +kernel
theorem dL_law_318 : decode cL_law 318 = .ok (.iconst 1, 1) := by decide +kernel
theorem dL_law_319 : decode cL_law 319 = .ok (.iadd, 1) := by decide +kernel
theorem dL_law_320 : decode cL_law 320 = .ok (.iaload, 1) := by decide +kernel
theorem dL_law_321 : decode cL_law 321 = .ok (.aload_n 0, 1) := by decide +kernel
theorem dL_law_322 : decode cL_law 322 = .ok (.iload_n 3, 1) := by decide +kernel
theorem dL_law_323 : decode cL_law 323 = .ok (.iconst 2, 1) := by decide +kernel
theorem dL_law_324 : decode cL_law 324 = .ok (.iadd, 1) := by decide +kernel
theorem dL_law_325 : decode cL_law 325 = .ok (.iaload, 1) := by decide +kernel
theorem dL_law_326 : decode cL_law 326 = .ok (.aload_n 0, 1) := by decide +kernel
theorem dL_law_327 : decode cL_law 327 = .ok (.iload_n 3, 1) := by decide +kernel
theorem dL_law_328 : decode cL_law 328 = .ok (.iconst 3, 1) := by decide +kernel
theorem dL_law_329 : decode cL_law 329 = .ok (.iadd, 1) := by decide +kernel
theorem dL_law_330 : decode cL_law 330 = .ok (.iaload, 1) := by decide +kernel
theorem dL_law_331 : decode cL_law 331 = .ok (.invokevirtual 28, 3) := by decide +kernel
theorem dL_law_334 : decode cL_law 334 = .ok (.aload_n 2, 1) := by decide +kernel
theorem dL_law_335 : decode cL_law 335 = .ok (.aload_n 0, 1) := by decide +kernel
theorem dL_law_336 : decode cL_law 336 = .ok (.iload_n 3, 1) := by decide +kernel
theorem dL_law_337 : decode cL_law 337 = .ok (.iconst 1, 1) := by decide +kernel
theorem dL_law_338 : decode cL_law 338 = .ok (.iadd, 1) := by decide +kernel
theorem dL_law_339 : decode cL_law 339 = .ok (.iaload, 1) := by decide +kernel
theorem dL_law_340 : decode cL_law 340 = .ok (.aload_n 0, 1) := by decide +kernel
theorem dL_law_341 : decode cL_law 341 = .ok (.iload_n 3, 1) := by decide +kernel
theorem dL_law_342 : decode cL_law 342 = .ok (.iconst 2, 1) := by decide +kernel
theorem dL_law_343 : decode cL_law 343 = .ok (.iadd, 1) := by decide +kernel
theorem dL_law_344 : decode cL_law 344 = .ok (.iaload, 1) := by decide +kernel
theorem dL_law_345 : decode cL_law 345 = .ok (.aload_n 0, 1) := by decide +kernel
theorem dL_law_346 : decode cL_law 346 = .ok (.iload_n 3, 1) := by decide +kernel
theorem dL_law_347 : decode cL_law 347 = .ok (.iconst 3, 1) := by decide +kernel
theorem dL_law_348 : decode cL_law 348 = .ok (.iadd, 1) := by decide +kernel
theorem dL_law_349 : decode cL_law 349 = .ok (.iaload, 1) := by decide +kernel
theorem dL_law_350 : decode cL_law 350 = .ok (.invokevirtual 31, 3) := by decide +kernel
theorem dL_law_353 : decode cL_law 353 = .ok (.if_icmp .eq 1140, 3) := by decide +kernel
theorem dL_law_356 : decode cL_law 356 = .ok (.iconst 0, 1) := by decide +kernel
theorem dL_law_357 : decode cL_law 357 = .ok (.ireturn, 1) := by decide +kernel
theorem dL_law_358 : decode cL_law 358 = .ok (.aload_n 1, 1) := by decide +kernel
theorem dL_law_359 : decode cL_law 359 = .ok (.aload_n 0, 1) := by decide +kernel
theorem dL_law_360 : decode cL_law 360 = .ok (.iload_n 3, 1) := by decide +kernel
theorem dL_law_361 : decode cL_law 361 = .ok (.iconst 1, 1) := by decide +kernel
theorem dL_law_362 : decode cL_law 362 = .ok (.iadd, 1) := by decide +kernel
theorem dL_law_363 : decode cL_law 363 = .ok (.iaload, 1) := by decide +kernel
theorem dL_law_364 : decode cL_law 364 = .ok (.aload_n 0, 1) := by decide +kernel
theorem dL_law_365 : decode cL_law 365 = .ok (.iload_n 3, 1) := by decide +kernel
theorem dL_law_366 : decode cL_law 366 = .ok (.iconst 2, 1) := by decide +kernel
theorem dL_law_367 : decode cL_law 367 = .ok (.iadd, 1) := by decide +kernel
theorem dL_law_368 : decode cL_law 368 = .ok (.iaload, 1) := by decide +kernel
theorem dL_law_369 : decode cL_law 369 = .ok (.invokevirtual 32, 3) := by decide +kernel
theorem dL_law_372 : decode cL_law 372 = .ok (.aload_n 2, 1) := by decide +kernel
theorem dL_law_373 : decode cL_law 373 = .ok (.aload_n 0, 1) := by decide +kernel
theorem dL_law_374 : decode cL_law 374 = .ok (.iload_n 3, 1) := by decide +kernel
theorem dL_law_375 : decode cL_law 375 = .ok (.iconst 1, 1) := by decide +kernel
theorem dL_law_376 : decode cL_law 376 = .ok (.iadd, 1) := by decide +kernel
theorem dL_law_377 : decode cL_law 377 = .ok (.iaload, 1) := by decide +kernel
theorem dL_law_378 : decode cL_law 378 = .ok (.aload_n 0, 1) := by decide +kernel
theorem dL_law_379 : decode cL_law 379 = .ok (.iload_n 3, 1) := by decide +kernel
theorem dL_law_380 : decode cL_law 380 = .ok (.iconst 2, 1) := by decide +kernel
theorem dL_law_381 : decode cL_law 381 = .ok (.iadd, 1) := by decide +kernel
theorem dL_law_382 : decode cL_law 382 = .ok (.iaload, 1) := by decide +kernel
theorem dL_law_383 : decode cL_law 383 = .ok (.invokevirtual 35, 3) := by decide +kernel
theorem dL_law_386 : decode cL_law 386 = .ok (.if_icmp .eq 1107, 3) := by decide +kernel
theorem dL_law_389 : decode cL_law 389 = .ok (.iconst 0, 1) := by decide +kernel
theorem dL_law_390 : decode cL_law 390 = .ok (.ireturn, 1) := by decide +kernel
theorem dL_law_391 : decode cL_law 391 = .ok (.aload_n 1, 1) := by decide +kernel
theorem dL_law_392 : decode cL_law 392 = .ok (.aload_n 0, 1) := by decide +kernel
theorem dL_law_393 : decode cL_law 393 = .ok (.iload_n 3, 1) := by decide +kernel
theorem dL_law_394 : decode cL_law 394 = .ok (.iconst 1, 1) := by decide +kernel
theorem dL_law_395 : decode cL_law 395 = .ok (.iadd, 1) := by decide +kernel
theorem dL_law_396 : decode cL_law 396 = .ok (.iaload, 1) := by decide +kernel
theorem dL_law_397 : decode cL_law 397 = .ok (.invokevirtual 36, 3) := by decide +kernel
theorem dL_law_400 : decode cL_law 400 = .ok (.aload_n 2, 1) := by decide +kernel
theorem dL_law_401 : decode cL_law 401 = .ok (.aload_n 0, 1) := by decide +kernel
theorem dL_law_402 : decode cL_law 402 = .ok (.iload_n 3, 1) := by decide +kernel
theorem dL_law_403 : decode cL_law 403 = .ok (.iconst 1, 1) := by decide +kernel
theorem dL_law_404 : decode cL_law 404 = .ok (.iadd, 1) := by decide +kernel
theorem dL_law_405 : decode cL_law 405 = .ok (.iaload, 1) := by decide +kernel
theorem dL_law_406 : decode cL_law 406 = .ok (.invokevirtual 39, 3) := by decide +kernel
theorem dL_law_409 : decode cL_law 409 = .ok (.if_icmp .eq 1084, 3) := by decide +kernel
theorem dL_law_412 : decode cL_law 412 = .ok (.iconst 0, 1) := by decide +kernel
theorem dL_law_413 : decode cL_law 413 = .ok (.ireturn, 1) := by decide +kernel
theorem dL_law_414 : decode cL_law 414 = .ok (.aload_n 1, 1) := by decide +kernel
theorem dL_law_415 : decode cL_law 415 = .ok (.invokevirtual 40, 3) := by decide +kernel
theorem dL_law_418 : decode cL_law 418 = .ok (.aload_n 2, 1) := by decide +kernel
theorem dL_law_419 : decode cL_law 419 = .ok (.invokevirtual 44, 3) := by decide +kernel
theorem dL_law_422 : decode cL_law 422 = .ok (.if_icmp .eq 1071, 3) := by decide +kernel
theorem dL_law_425 : decode cL_law 425 = .ok (.iconst 0, 1) := by decide +kernel
theorem dL_law_426 : decode cL_law 426 = .ok (.ireturn, 1) := by decide +kernel
theorem dL_law_427 : decode cL_law 427 = .ok (.aload_n 1, 1) := by decide +kernel
theorem dL_law_428 : decode cL_law 428 = .ok (.aload_n 0, 1) := by decide +kernel
theorem dL_law_429 : decode cL_law 429 = .ok (.iload_n 3, 1) := by decide +kernel
theorem dL_law_430 : decode cL_law 430 = .ok (.iconst 1, 1) := by decide +kernel
theorem dL_law_431 : decode cL_law 431 = .ok (.iadd, 1) := by decide +kernel
theorem dL_law_432 : decode cL_law 432 = .ok (.iaload, 1) := by decide +kernel
theorem dL_law_433 : decode cL_law 433 = .ok (.aload_n 0, 1) := by decide +kernel
theorem dL_law_434 : decode cL_law 434 = .ok (.iload_n 3, 1) := by decide +kernel
theorem dL_law_435 : decode cL_law 435 = .ok (.iconst 2, 1) := by decide +kernel
theorem dL_law_436 : decode cL_law 436 = .ok (.iadd, 1) := by decide +kernel
theorem dL_law_437 : decode cL_law 437 = .ok (.iaload, 1) := by decide +kernel
theorem dL_law_438 : decode cL_law 438 = .ok (.invokevirtual 45, 3) := by decide +kernel
theorem dL_law_441 : decode cL_law 441 = .ok (.aload_n 2, 1) := by decide +kernel
theorem dL_law_442 : decode cL_law 442 = .ok (.aload_n 0, 1) := by decide +kernel
theorem dL_law_443 : decode cL_law 443 = .ok (.iload_n 3, 1) := by decide +kernel
theorem dL_law_444 : decode cL_law 444 = .ok (.iconst 1, 1) := by decide +kernel
theorem dL_law_445 : decode cL_law 445 = .ok (.iadd, 1) := by decide +kernel
theorem dL_law_446 : decode cL_law 446 = .ok (.iaload, 1) := by decide +kernel
theorem dL_law_447 : decode cL_law 447 = .ok (.aload_n 0, 1) := by decide +kernel
theorem dL_law_448 : decode cL_law 448 = .ok (.iload_n 3, 1) := by decide +kernel
theorem dL_law_449 : decode cL_law 449 = .ok (.iconst 2, 1) := by decide +kernel
theorem dL_law_450 : decode cL_law 450 = .ok (.iadd, 1) := by decide +kernel
theorem dL_law_451 : decode cL_law 451 = .ok (.iaload, 1) := by decide +kernel
theorem dL_law_452 : decode cL_law 452 = .ok (.invokevirtual 48, 3) := by decide +kernel
theorem dL_law_455 : decode cL_law 455 = .ok (.if_icmp .eq 1038, 3) := by decide +kernel
theorem dL_law_458 : decode cL_law 458 = .ok (.iconst 0, 1) := by decide +kernel
theorem dL_law_459 : decode cL_law 459 = .ok (.ireturn, 1) := by decide +kernel
theorem dL_law_460 : decode cL_law 460 = .ok (.aload_n 1, 1) := by decide +kernel
theorem dL_law_461 : decode cL_law 461 = .ok (.aload_n 0, 1) := by decide +kernel
theorem dL_law_462 : decode cL_law 462 = .ok (.iload_n 3, 1) := by decide +kernel
theorem dL_law_463 : decode cL_law 463 = .ok (.iconst 1, 1) := by decide +kernel
theorem dL_law_464 : decode cL_law 464 = .ok (.iadd, 1) := by decide +kernel
theorem dL_law_465 : decode cL_law 465 = .ok (.iaload, 1) := by decide +kernel
theorem dL_law_466 : decode cL_law 466 = .ok (.aload_n 0, 1) := by decide +kernel
theorem dL_law_467 : decode cL_law 467 = .ok (.iload_n 3, 1) := by decide +kernel
theorem dL_law_468 : decode cL_law 468 = .ok (.iconst 2, 1) := by decide +kernel
theorem dL_law_469 : decode cL_law 469 = .ok (.iadd, 1) := by decide +kernel
theorem dL_law_470 : decode cL_law 470 = .ok (.iaload, 1) := by decide +kernel
theorem dL_law_471 : decode cL_law 471 = .ok (.aload_n 0, 1) := by decide +kernel
theorem dL_law_472 : decode cL_law 472 = .ok (.iload_n 3, 1) := by decide +kernel
theorem dL_law_473 : decode cL_law 473 = .ok (.iconst 3, 1) := by decide +kernel
theorem dL_law_474 : decode cL_law 474 = .ok (.iadd, 1) := by decide +kernel
theorem dL_law_475 : decode cL_law 475 = .ok (.iaload, 1) := by decide +kernel
theorem dL_law_476 : decode cL_law 476 = .ok (.invokevirtual 49, 3) := by decide +kernel
theorem dL_law_479 : decode cL_law 479 = .ok (.aload_n 2, 1) := by decide +kernel
theorem dL_law_480 : decode cL_law 480 = .ok (.aload_n 0, 1) := by decide +kernel
theorem dL_law_481 : decode cL_law 481 = .ok (.iload_n 3, 1) := by decide +kernel
theorem dL_law_482 : decode cL_law 482 = .ok (.iconst 1, 1) := by decide +kernel
theorem dL_law_483 : decode cL_law 483 = .ok (.iadd, 1) := by decide +kernel
theorem dL_law_484 : decode cL_law 484 = .ok (.iaload, 1) := by decide +kernel
theorem dL_law_485 : decode cL_law 485 = .ok (.aload_n 0, 1) := by decide +kernel
theorem dL_law_486 : decode cL_law 486 = .ok (.iload_n 3, 1) := by decide +kernel
theorem dL_law_487 : decode cL_law 487 = .ok (.iconst 2, 1) := by decide +kernel
theorem dL_law_488 : decode cL_law 488 = .ok (.iadd, 1) := by decide +kernel
theorem dL_law_489 : decode cL_law 489 = .ok (.iaload, 1) := by decide +kernel
theorem dL_law_490 : decode cL_law 490 = .ok (.aload_n 0, 1) := by decide +kernel
theorem dL_law_491 : decode cL_law 491 = .ok (.iload_n 3, 1) := by decide +kernel
theorem dL_law_492 : decode cL_law 492 = .ok (.iconst 3, 1) := by decide +kernel
theorem dL_law_493 : decode cL_law 493 = .ok (.iadd, 1) := by decide +kernel
theorem dL_law_494 : decode cL_law 494 = .ok (.iaload, 1) := by decide +kernel
theorem dL_law_495 : decode cL_law 495 = .ok (.invokevirtual 52, 3) := by decide +kernel
theorem dL_law_498 : decode cL_law 498 = .ok (.if_icmp .eq 995, 3) := by decide +kernel
theorem dL_law_501 : decode cL_law 501 = .ok (.iconst 0, 1) := by decide +kernel
theorem dL_law_502 : decode cL_law 502 = .ok (.ireturn, 1) := by decide +kernel
theorem dL_law_503 : decode cL_law 503 = .ok (.aload_n 1, 1) := by decide +kernel
theorem dL_law_504 : decode cL_law 504 = .ok (.aload_n 0, 1) := by decide +kernel
theorem dL_law_505 : decode cL_law 505 = .ok (.iload_n 3, 1) := by decide +kernel
theorem dL_law_506 : decode cL_law 506 = .ok (.iconst 1, 1) := by decide +kernel
theorem dL_law_507 : decode cL_law 507 = .ok (.iadd, 1) := by decide +kernel
theorem dL_law_508 : decode cL_law 508 = .ok (.iaload, 1) := by decide +kernel
theorem dL_law_509 : decode cL_law 509 = .ok (.aload_n 0, 1) := by decide +kernel
theorem dL_law_510 : decode cL_law 510 = .ok (.iload_n 3, 1) := by decide +kernel
theorem dL_law_511 : decode cL_law 511 = .ok (.iconst 2, 1) := by decide +kernel
theorem dL_law_512 : decode cL_law 512 = .ok (.iadd, 1) := by decide +kernel
theorem dL_law_513 : decode cL_law 513 = .ok (.iaload, 1) := by decide +kernel
theorem dL_law_514 : decode cL_law 514 = .ok (.aload_n 0, 1) := by decide +kernel
theorem dL_law_515 : decode cL_law 515 = .ok (.iload_n 3, 1) := by decide +kernel
theorem dL_law_516 : decode cL_law 516 = .ok (.iconst 3, 1) := by decide +kernel
theorem dL_law_517 : decode cL_law 517 = .ok (.iadd, 1) := by decide +kernel
theorem dL_law_518 : decode cL_law 518 = .ok (.iaload, 1) := by decide +kernel
theorem dL_law_519 : decode cL_law 519 = .ok (.invokevirtual 53, 3) := by decide +kernel
theorem dL_law_522 : decode cL_law 522 = .ok (.aload_n 2, 1) := by decide +kernel
theorem dL_law_523 : decode cL_law 523 = .ok (.aload_n 0, 1) := by decide +kernel
theorem dL_law_524 : decode cL_law 524 = .ok (.iload_n 3, 1) := by decide +kernel
theorem dL_law_525 : decode cL_law 525 = .ok (.iconst 1, 1) := by decide +kernel
theorem dL_law_526 : decode cL_law 526 = .ok (.iadd, 1) := by decide +kernel
theorem dL_law_527 : decode cL_law 527 = .ok (.iaload, 1) := by decide +kernel
theorem dL_law_528 : decode cL_law 528 = .ok (.aload_n 0, 1) := by decide +kernel
theorem dL_law_529 : decode cL_law 529 = .ok (.iload_n 3, 1) := by decide +kernel
theorem dL_law_530 : decode cL_law 530 = .ok (.iconst 2, 1) := by decide +kernel
theorem dL_law_531 : decode cL_law 531 = .ok (.iadd, 1) := by decide +kernel
theorem dL_law_532 : decode cL_law 532 = .ok (.iaload, 1) := by decide +kernel
theorem dL_law_533 : decode cL_law 533 = .ok (.aload_n 0, 1) := by decide +kernel
theorem dL_law_534 : decode cL_law 534 = .ok (.iload_n 3, 1) := by decide +kernel
theorem dL_law_535 : decode cL_law 535 = .ok (.iconst 3, 1) := by decide +kernel
theorem dL_law_536 : decode cL_law 536 = .ok (.iadd, 1) := by decide +kernel
theorem dL_law_537 : decode cL_law 537 = .ok (.iaload, 1) := by decide +kernel
theorem dL_law_538 : decode cL_law 538 = .ok (.invokevirtual 56, 3) := by decide +kernel
theorem dL_law_541 : decode cL_law 541 = .ok (.if_icmp .eq 952, 3) := by decide +kernel
theorem dL_law_544 : decode cL_law 544 = .ok (.iconst 0, 1) := by decide +kernel
theorem dL_law_545 : decode cL_law 545 = .ok (.ireturn, 1) := by decide +kernel
theorem dL_law_546 : decode cL_law 546 = .ok (.aload_n 1, 1) := by decide +kernel
theorem dL_law_547 : decode cL_law 547 = .ok (.aload_n 0, 1) := by decide +kernel
theorem dL_law_548 : decode cL_law 548 = .ok (.iload_n 3, 1) := by decide +kernel
theorem dL_law_549 : decode cL_law 549 = .ok (.iconst 1, 1) := by decide +kernel
theorem dL_law_550 : decode cL_law 550 = .ok (.iadd, 1) := by decide +kernel
theorem dL_law_551 : decode cL_law 551 = .ok (.iaload, 1) := by decide +kernel
theorem dL_law_552 : decode cL_law 552 = .ok (.invokevirtual 57, 3) := by decide +kernel
theorem dL_law_555 : decode cL_law 555 = .ok (.aload_n 2, 1) := by decide +kernel
theorem dL_law_556 : decode cL_law 556 = .ok (.aload_n 0, 1) := by decide +kernel
theorem dL_law_557 : decode cL_law 557 = .ok (.iload_n 3, 1) := by decide +kernel
theorem dL_law_558 : decode cL_law 558 = .ok (.iconst 1, 1) := by decide +kernel
theorem dL_law_559 : decode cL_law 559 = .ok (.iadd, 1) := by decide +kernel
theorem dL_law_560 : decode cL_law 560 = .ok (.iaload, 1) := by decide +kernel
theorem dL_law_561 : decode cL_law 561 = .ok (.invokevirtual 60, 3) := by decide +kernel
theorem dL_law_564 : decode cL_law 564 = .ok (.if_icmp .eq 929, 3) := by decide +kernel
theorem dL_law_567 : decode cL_law 567 = .ok (.iconst 0, 1) := by decide +kernel
theorem dL_law_568 : decode cL_law 568 = .ok (.ireturn, 1) := by decide +kernel
theorem dL_law_569 : decode cL_law 569 = .ok (.aload_n 1, 1) := by decide +kernel
theorem dL_law_570 : decode cL_law 570 = .ok (.aload_n 0, 1) := by decide +kernel
theorem dL_law_571 : decode cL_law 571 = .ok (.iload_n 3, 1) := by decide +kernel
theorem dL_law_572 : decode cL_law 572 = .ok (.iconst 1, 1) := by decide +kernel
theorem dL_law_573 : decode cL_law 573 = .ok (.iadd, 1) := by decide +kernel
theorem dL_law_574 : decode cL_law 574 = .ok (.iaload, 1) := by decide +kernel
theorem dL_law_575 : decode cL_law 575 = .ok (.invokevirtual 61, 3) := by decide +kernel
theorem dL_law_578 : decode cL_law 578 = .ok (.aload_n 2, 1) := by decide +kernel
theorem dL_law_579 : decode cL_law 579 = .ok (.aload_n 0, 1) := by decide +kernel
theorem dL_law_580 : decode cL_law 580 = .ok (.iload_n 3, 1) := by decide +kernel
theorem dL_law_581 : decode cL_law 581 = .ok (.iconst 1, 1) := by decide +kernel
theorem dL_law_582 : decode cL_law 582 = .ok (.iadd, 1) := by decide +kernel
theorem dL_law_583 : decode cL_law 583 = .ok (.iaload, 1) := by decide +kernel
theorem dL_law_584 : decode cL_law 584 = .ok (.invokevirtual 64, 3) := by decide +kernel
theorem dL_law_587 : decode cL_law 587 = .ok (.if_icmp .eq 906, 3) := by decide +kernel
theorem dL_law_590 : decode cL_law 590 = .ok (.iconst 0, 1) := by decide +kernel
theorem dL_law_591 : decode cL_law 591 = .ok (.ireturn, 1) := by decide +kernel
theorem dL_law_592 : decode cL_law 592 = .ok (.aload_n 1, 1) := by decide +kernel
theorem dL_law_593 : decode cL_law 593 = .ok (.aload_n 0, 1) := by decide +kernel
theorem dL_law_594 : decode cL_law 594 = .ok (.iload_n 3, 1) := by decide +kernel
theorem dL_law_595 : decode cL_law 595 = .ok (.iconst 1, 1) := by decide +kernel
theorem dL_law_596 : decode cL_law 596 = .ok (.iadd, 1) := by decide +kernel
theorem dL_law_597 : decode cL_law 597 = .ok (.iaload, 1) := by decide +kernel
theorem dL_law_598 : decode cL_law 598 = .ok (.invokevirtual 65, 3) := by decide +kernel
theorem dL_law_601 : decode cL_law 601 = .ok (.aload_n 2, 1) := by decide +kernel
theorem dL_law_602 : decode cL_law 602 = .ok (.aload_n 0, 1) := by decide +kernel
theorem dL_law_603 : decode cL_law 603 = .ok (.iload_n 3, 1) := by decide +kernel
theorem dL_law_604 : decode cL_law 604 = .ok (.iconst 1, 1) := by decide +kernel
theorem dL_law_605 : decode cL_law 605 = .ok (.iadd, 1) := by decide +kernel
theorem dL_law_606 : decode cL_law 606 = .ok (.iaload, 1) := by decide +kernel
theorem dL_law_607 : decode cL_law 607 = .ok (.invokevirtual 68, 3) := by decide +kernel
theorem dL_law_610 : decode cL_law 610 = .ok (.if_icmp .eq 883, 3) := by decide +kernel
theorem dL_law_613 : decode cL_law 613 = .ok (.iconst 0, 1) := by decide +kernel
theorem dL_law_614 : decode cL_law 614 = .ok (.ireturn, 1) := by decide +kernel
theorem dL_law_615 : decode cL_law 615 = .ok (.aload_n 1, 1) := by decide +kernel
theorem dL_law_616 : decode cL_law 616 = .ok (.aload_n 0, 1) := by decide +kernel
theorem dL_law_617 : decode cL_law 617 = .ok (.iload_n 3, 1) := by decide +kernel
theorem dL_law_618 : decode cL_law 618 = .ok (.iconst 1, 1) := by decide +kernel
theorem dL_law_619 : decode cL_law 619 = .ok (.iadd, 1) := by decide +kernel
theorem dL_law_620 : decode cL_law 620 = .ok (.iaload, 1) := by decide +kernel
theorem dL_law_621 : decode cL_law 621 = .ok (.invokevirtual 69, 3) := by decide +kernel
theorem dL_law_624 : decode cL_law 624 = .ok (.aload_n 2, 1) := by decide +kernel
theorem dL_law_625 : decode cL_law 625 = .ok (.aload_n 0, 1) := by decide +kernel
theorem dL_law_626 : decode cL_law 626 = .ok (.iload_n 3, 1) := by decide +kernel
theorem dL_law_627 : decode cL_law 627 = .ok (.iconst 1, 1) := by decide +kernel
theorem dL_law_628 : decode cL_law 628 = .ok (.iadd, 1) := by decide +kernel
theorem dL_law_629 : decode cL_law 629 = .ok (.iaload, 1) := by decide +kernel
theorem dL_law_630 : decode cL_law 630 = .ok (.invokevirtual 72, 3) := by decide +kernel
theorem dL_law_633 : decode cL_law 633 = .ok (.if_icmp .eq 860, 3) := by decide +kernel
theorem dL_law_636 : decode cL_law 636 = .ok (.iconst 0, 1) := by decide +kernel
theorem dL_law_637 : decode cL_law 637 = .ok (.ireturn, 1) := by decide +kernel
theorem dL_law_638 : decode cL_law 638 = .ok (.aload_n 1, 1) := by decide +kernel
theorem dL_law_639 : decode cL_law 639 = .ok (.invokevirtual 73, 3) := by decide +kernel
theorem dL_law_642 : decode cL_law 642 = .ok (.aload_n 2, 1) := by decide +kernel
theorem dL_law_643 : decode cL_law 643 = .ok (.invokevirtual 76, 3) := by decide +kernel
theorem dL_law_646 : decode cL_law 646 = .ok (.if_icmp .eq 847, 3) := by decide +kernel
theorem dL_law_649 : decode cL_law 649 = .ok (.iconst 0, 1) := by decide +kernel
theorem dL_law_650 : decode cL_law 650 = .ok (.ireturn, 1) := by decide +kernel
theorem dL_law_651 : decode cL_law 651 = .ok (.aload_n 1, 1) := by decide +kernel
theorem dL_law_652 : decode cL_law 652 = .ok (.aload_n 0, 1) := by decide +kernel
theorem dL_law_653 : decode cL_law 653 = .ok (.iload_n 3, 1) := by decide +kernel
theorem dL_law_654 : decode cL_law 654 = .ok (.iconst 1, 1) := by decide +kernel
theorem dL_law_655 : decode cL_law 655 = .ok (.iadd, 1) := by decide +kernel
theorem dL_law_656 : decode cL_law 656 = .ok (.iaload, 1) := by decide +kernel
theorem dL_law_657 : decode cL_law 657 = .ok (.invokevirtual 77, 3) := by decide +kernel
theorem dL_law_660 : decode cL_law 660 = .ok (.aload_n 2, 1) := by decide +kernel
theorem dL_law_661 : decode cL_law 661 = .ok (.aload_n 0, 1) := by decide +kernel
theorem dL_law_662 : decode cL_law 662 = .ok (.iload_n 3, 1) := by decide +kernel
theorem dL_law_663 : decode cL_law 663 = .ok (.iconst 1, 1) := by decide +kernel
theorem dL_law_664 : decode cL_law 664 = .ok (.iadd, 1) := by decide +kernel
theorem dL_law_665 : decode cL_law 665 = .ok (.iaload, 1) := by decide +kernel
theorem dL_law_666 : decode cL_law 666 = .ok (.invokevirtual 80, 3) := by decide +kernel
theorem dL_law_669 : decode cL_law 669 = .ok (.if_icmp .eq 824, 3) := by decide +kernel
theorem dL_law_672 : decode cL_law 672 = .ok (.iconst 0, 1) := by decide +kernel
theorem dL_law_673 : decode cL_law 673 = .ok (.ireturn, 1) := by decide +kernel
theorem dL_law_674 : decode cL_law 674 = .ok (.aload_n 1, 1) := by decide +kernel
theorem dL_law_675 : decode cL_law 675 = .ok (.aload_n 0, 1) := by decide +kernel
theorem dL_law_676 : decode cL_law 676 = .ok (.iload_n 3, 1) := by decide +kernel
theorem dL_law_677 : decode cL_law 677 = .ok (.iconst 1, 1) := by decide +kernel
theorem dL_law_678 : decode cL_law 678 = .ok (.iadd, 1) := by decide +kernel
theorem dL_law_679 : decode cL_law 679 = .ok (.iaload, 1) := by decide +kernel
theorem dL_law_680 : decode cL_law 680 = .ok (.aload_n 0, 1) := by decide +kernel
theorem dL_law_681 : decode cL_law 681 = .ok (.iload_n 3, 1) := by decide +kernel
theorem dL_law_682 : decode cL_law 682 = .ok (.iconst 2, 1) := by decide +kernel
theorem dL_law_683 : decode cL_law 683 = .ok (.iadd, 1) := by decide +kernel
theorem dL_law_684 : decode cL_law 684 = .ok (.iaload, 1) := by decide +kernel
theorem dL_law_685 : decode cL_law 685 = .ok (.invokevirtual 81, 3) := by decide +kernel
theorem dL_law_688 : decode cL_law 688 = .ok (.aload_n 2, 1) := by decide +kernel
theorem dL_law_689 : decode cL_law 689 = .ok (.aload_n 0, 1) := by decide +kernel
theorem dL_law_690 : decode cL_law 690 = .ok (.iload_n 3, 1) := by decide +kernel
theorem dL_law_691 : decode cL_law 691 = .ok (.iconst 1, 1) := by decide +kernel
theorem dL_law_692 : decode cL_law 692 = .ok (.iadd, 1) := by decide +kernel
theorem dL_law_693 : decode cL_law 693 = .ok (.iaload, 1) := by decide +kernel
theorem dL_law_694 : decode cL_law 694 = .ok (.aload_n 0, 1) := by decide +kernel
theorem dL_law_695 : decode cL_law 695 = .ok (.iload_n 3, 1) := by decide +kernel
theorem dL_law_696 : decode cL_law 696 = .ok (.iconst 2, 1) := by decide +kernel
theorem dL_law_697 : decode cL_law 697 = .ok (.iadd, 1) := by decide +kernel
theorem dL_law_698 : decode cL_law 698 = .ok (.iaload, 1) := by decide +kernel
theorem dL_law_699 : decode cL_law 699 = .ok (.invokevirtual 84, 3) := by decide +kernel
theorem dL_law_702 : decode cL_law 702 = .ok (.if_icmp .eq 791, 3) := by decide +kernel
theorem dL_law_705 : decode cL_law 705 = .ok (.iconst 0, 1) := by decide +kernel
theorem dL_law_706 : decode cL_law 706 = .ok (.ireturn, 1) := by decide +kernel
theorem dL_law_707 : decode cL_law 707 = .ok (.aload_n 1, 1) := by decide +kernel
theorem dL_law_708 : decode cL_law 708 = .ok (.aload_n 0, 1) := by decide +kernel
theorem dL_law_709 : decode cL_law 709 = .ok (.iload_n 3, 1) := by decide +kernel
theorem dL_law_710 : decode cL_law 710 = .ok (.iconst 1, 1) := by decide +kernel
theorem dL_law_711 : decode cL_law 711 = .ok (.iadd, 1) := by decide +kernel
theorem dL_law_712 : decode cL_law 712 = .ok (.iaload, 1) := by decide +kernel
theorem dL_law_713 : decode cL_law 713 = .ok (.invokevirtual 85, 3) := by decide +kernel
theorem dL_law_716 : decode cL_law 716 = .ok (.aload_n 2, 1) := by decide +kernel
theorem dL_law_717 : decode cL_law 717 = .ok (.aload_n 0, 1) := by decide +kernel
theorem dL_law_718 : decode cL_law 718 = .ok (.iload_n 3, 1) := by decide +kernel
theorem dL_law_719 : decode cL_law 719 = .ok (.iconst 1, 1) := by decide +kernel
theorem dL_law_720 : decode cL_law 720 = .ok (.iadd, 1) := by decide +kernel
theorem dL_law_721 : decode cL_law 721 = .ok (.iaload, 1) := by decide +kernel
theorem dL_law_722 : decode cL_law 722 = .ok (.invokevirtual 88, 3) := by decide +kernel
theorem dL_law_725 : decode cL_law 725 = .ok (.if_icmp .eq 768, 3) := by decide +kernel
theorem dL_law_728 : decode cL_law 728 = .ok (.iconst 0, 1) := by decide +kernel
theorem dL_law_729 : decode cL_law 729 = .ok (.ireturn, 1) := by decide +kernel
theorem dL_law_730 : decode cL_law 730 = .ok (.aload_n 1, 1) := by decide +kernel
theorem dL_law_731 : decode cL_law 731 = .ok (.aload_n 0, 1) := by decide +kernel
theorem dL_law_732 : decode cL_law 732 = .ok (.iload_n 3, 1) := by decide +kernel
theorem dL_law_733 : decode cL_law 733 = .ok (.iconst 1, 1) := by decide +kernel
theorem dL_law_734 : decode cL_law 734 = .ok (.iadd, 1) := by decide +kernel
theorem dL_law_735 : decode cL_law 735 = .ok (.iaload, 1) := by decide +kernel
theorem dL_law_736 : decode cL_law 736 = .ok (.invokevirtual 89, 3) := by decide +kernel
theorem dL_law_739 : decode cL_law 739 = .ok (.aload_n 2, 1) := by decide +kernel
theorem dL_law_740 : decode cL_law 740 = .ok (.aload_n 0, 1) := by decide +kernel
theorem dL_law_741 : decode cL_law 741 = .ok (.iload_n 3, 1) := by decide +kernel
theorem dL_law_742 : decode cL_law 742 = .ok (.iconst 1, 1) := by decide +kernel
theorem dL_law_743 : decode cL_law 743 = .ok (.iadd, 1) := by decide +kernel
theorem dL_law_744 : decode cL_law 744 = .ok (.iaload, 1) := by decide +kernel
theorem dL_law_745 : decode cL_law 745 = .ok (.invokevirtual 92, 3) := by decide +kernel
theorem dL_law_748 : decode cL_law 748 = .ok (.if_icmp .eq 745, 3) := by decide +kernel
theorem dL_law_751 : decode cL_law 751 = .ok (.iconst 0, 1) := by decide +kernel
theorem dL_law_752 : decode cL_law 752 = .ok (.ireturn, 1) := by decide +kernel
theorem dL_law_753 : decode cL_law 753 = .ok (.aload_n 1, 1) := by decide +kernel
theorem dL_law_754 : decode cL_law 754 = .ok (.aload_n 0, 1) := by decide +kernel
theorem dL_law_755 : decode cL_law 755 = .ok (.iload_n 3, 1) := by decide +kernel
theorem dL_law_756 : decode cL_law 756 = .ok (.iconst 1, 1) := by decide +kernel
theorem dL_law_757 : decode cL_law 757 = .ok (.iadd, 1) := by decide +kernel
theorem dL_law_758 : decode cL_law 758 = .ok (.iaload, 1) := by decide +kernel
theorem dL_law_759 : decode cL_law 759 = .ok (.aload_n 0, 1) := by decide +kernel
theorem dL_law_760 : decode cL_law 760 = .ok (.iload_n 3, 1) := by decide +kernel
theorem dL_law_761 : decode cL_law 761 = .ok (.iconst 2, 1) := by decide +kernel
theorem dL_law_762 : decode cL_law 762 = .ok (.iadd, 1) := by decide +kernel
theorem dL_law_763 : decode cL_law 763 = .ok (.iaload, 1) := by decide +kernel
theorem dL_law_764 : decode cL_law 764 = .ok (.invokevirtual 93, 3) := by decide +kernel
theorem dL_law_767 : decode cL_law 767 = .ok (.aload_n 2, 1) := by decide +kernel
theorem dL_law_768 : decode cL_law 768 = .ok (.aload_n 0, 1) := by decide +kernel
theorem dL_law_769 : decode cL_law 769 = .ok (.iload_n 3, 1) := by decide +kernel
theorem dL_law_770 : decode cL_law 770 = .ok (.iconst 1, 1) := by decide +kernel
theorem dL_law_771 : decode cL_law 771 = .ok (.iadd, 1) := by decide +kernel
theorem dL_law_772 : decode cL_law 772 = .ok (.iaload, 1) := by decide +kernel
theorem dL_law_773 : decode cL_law 773 = .ok (.aload_n 0, 1) := by decide +kernel
theorem dL_law_774 : decode cL_law 774 = .ok (.iload_n 3, 1) := by decide +kernel
theorem dL_law_775 : decode cL_law 775 = .ok (.iconst 2, 1) := by decide +kernel
theorem dL_law_776 : decode cL_law 776 = .ok (.iadd, 1) := by decide +kernel
theorem dL_law_777 : decode cL_law 777 = .ok (.iaload, 1) := by decide +kernel
theorem dL_law_778 : decode cL_law 778 = .ok (.invokevirtual 96, 3) := by decide +kernel
theorem dL_law_781 : decode cL_law 781 = .ok (.if_icmp .eq 712, 3) := by decide +kernel
theorem dL_law_784 : decode cL_law 784 = .ok (.iconst 0, 1) := by decide +kernel
theorem dL_law_785 : decode cL_law 785 = .ok (.ireturn, 1) := by decide +kernel
theorem dL_law_786 : decode cL_law 786 = .ok (.aload_n 1, 1) := by decide +kernel
theorem dL_law_787 : decode cL_law 787 = .ok (.aload_n 0, 1) := by decide +kernel
theorem dL_law_788 : decode cL_law 788 = .ok (.iload_n 3, 1) := by decide +kernel
theorem dL_law_789 : decode cL_law 789 = .ok (.iconst 1, 1) := by decide +kernel
theorem dL_law_790 : decode cL_law 790 = .ok (.iadd, 1) := by decide +kernel
theorem dL_law_791 : decode cL_law 791 = .ok (.iaload, 1) := by decide +kernel
theorem dL_law_792 : decode cL_law 792 = .ok (.aload_n 0, 1) := by decide +kernel
theorem dL_law_793 : decode cL_law 793 = .ok (.iload_n 3, 1) := by decide +kernel
theorem dL_law_794 : decode cL_law 794 = .ok (.iconst 2, 1) := by decide +kernel
theorem dL_law_795 : decode cL_law 795 = .ok (.iadd, 1) := by decide +kernel
theorem dL_law_796 : decode cL_law 796 = .ok (.iaload, 1) := by decide +kernel
theorem dL_law_797 : decode cL_law 797 = .ok (.aload_n 0, 1) := by decide +kernel
theorem dL_law_798 : decode cL_law 798 = .ok (.iload_n 3, 1) := by decide +kernel
theorem dL_law_799 : decode cL_law 799 = .ok (.iconst 3, 1) := by decide +kernel
theorem dL_law_800 : decode cL_law 800 = .ok (.iadd, 1) := by decide +kernel
theorem dL_law_801 : decode cL_law 801 = .ok (.iaload, 1) := by decide +kernel
theorem dL_law_802 : decode cL_law 802 = .ok (.aload_n 0, 1) := by decide +kernel
theorem dL_law_803 : decode cL_law 803 = .ok (.iload_n 3, 1) := by decide +kernel
theorem dL_law_804 : decode cL_law 804 = .ok (.iconst 4, 1) := by decide +kernel
theorem dL_law_805 : decode cL_law 805 = .ok (.iadd, 1) := by decide +kernel
theorem dL_law_806 : decode cL_law 806 = .ok (.iaload, 1) := by decide +kernel
theorem dL_law_807 : decode cL_law 807 = .ok (.invokevirtual 97, 3) := by decide +kernel
theorem dL_law_810 : decode cL_law 810 = .ok (.aload_n 2, 1) := by decide +kernel
theorem dL_law_811 : decode cL_law 811 = .ok (.aload_n 0, 1) := by decide +kernel
theorem dL_law_812 : decode cL_law 812 = .ok (.iload_n 3, 1) := by decide +kernel
theorem dL_law_813 : decode cL_law 813 = .ok (.iconst 1, 1) := by decide +kernel
theorem dL_law_814 : decode cL_law 814 = .ok (.iadd, 1) := by decide +kernel
theorem dL_law_815 : decode cL_law 815 = .ok (.iaload, 1) := by decide +kernel
theorem dL_law_816 : decode cL_law 816 = .ok (.aload_n 0, 1) := by decide +kernel
theorem dL_law_817 : decode cL_law 817 = .ok (.iload_n 3, 1) := by decide +kernel
theorem dL_law_818 : decode cL_law 818 = .ok (.iconst 2, 1) := by decide +kernel
theorem dL_law_819 : decode cL_law 819 = .ok (.iadd, 1) := by decide +kernel
theorem dL_law_820 : decode cL_law 820 = .ok (.iaload, 1) := by decide +kernel
theorem dL_law_821 : decode cL_law 821 = .ok (.aload_n 0, 1) := by decide +kernel
theorem dL_law_822 : decode cL_law 822 = .ok (.iload_n 3, 1) := by decide +kernel
theorem dL_law_823 : decode cL_law 823 = .ok (.iconst 3, 1) := by decide +kernel
theorem dL_law_824 : decode cL_law 824 = .ok (.iadd, 1) := by decide +kernel
theorem dL_law_825 : decode cL_law 825 = .ok (.iaload, 1) := by decide +kernel
theorem dL_law_826 : decode cL_law 826 = .ok (.aload_n 0, 1) := by decide +kernel
theorem dL_law_827 : decode cL_law 827 = .ok (.iload_n 3, 1) := by decide +kernel
theorem dL_law_828 : decode cL_law 828 = .ok (.iconst 4, 1) := by decide +kernel
theorem dL_law_829 : decode cL_law 829 = .ok (.iadd, 1) := by decide +kernel
theorem dL_law_830 : decode cL_law 830 = .ok (.iaload, 1) := by decide +kernel
theorem dL_law_831 : decode cL_law 831 = .ok (.invokevirtual 101, 3) := by decide +kernel
theorem dL_law_834 : decode cL_law 834 = .ok (.if_icmp .eq 659, 3) := by decide +kernel
theorem dL_law_837 : decode cL_law 837 = .ok (.iconst 0, 1) := by decide +kernel
theorem dL_law_838 : decode cL_law 838 = .ok (.ireturn, 1) := by decide +kernel
theorem dL_law_839 : decode cL_law 839 = .ok (.aload_n 1, 1) := by decide +kernel
theorem dL_law_840 : decode cL_law 840 = .ok (.aload_n 0, 1) := by decide +kernel
theorem dL_law_841 : decode cL_law 841 = .ok (.iload_n 3, 1) := by decide +kernel
theorem dL_law_842 : decode cL_law 842 = .ok (.iconst 1, 1) := by decide +kernel
theorem dL_law_843 : decode cL_law 843 = .ok (.iadd, 1) := by decide +kernel
theorem dL_law_844 : decode cL_law 844 = .ok (.iaload, 1) := by decide +kernel
theorem dL_law_845 : decode cL_law 845 = .ok (.aload_n 0, 1) := by decide +kernel
theorem dL_law_846 : decode cL_law 846 = .ok (.iload_n 3, 1) := by decide +kernel
theorem dL_law_847 : decode cL_law 847 = .ok (.iconst 2, 1) := by decide +kernel
theorem dL_law_848 : decode cL_law 848 = .ok (.iadd, 1) := by decide +kernel
theorem dL_law_849 : decode cL_law 849 = .ok (.iaload, 1) := by decide +kernel
theorem dL_law_850 : decode cL_law 850 = .ok (.aload_n 0, 1) := by decide +kernel
theorem dL_law_851 : decode cL_law 851 = .ok (.iload_n 3, 1) := by decide +kernel
theorem dL_law_852 : decode cL_law 852 = .ok (.iconst 3, 1) := by decide +kernel
theorem dL_law_853 : decode cL_law 853 = .ok (.iadd, 1) := by decide +kernel
theorem dL_law_854 : decode cL_law 854 = .ok (.iaload, 1) := by decide +kernel
theorem dL_law_855 : decode cL_law 855 = .ok (.invokevirtual 102, 3) := by decide +kernel
theorem dL_law_858 : decode cL_law 858 = .ok (.aload_n 2, 1) := by decide +kernel
theorem dL_law_859 : decode cL_law 859 = .ok (.aload_n 0, 1) := by decide +kernel
theorem dL_law_860 : decode cL_law 860 = .ok (.iload_n 3, 1) := by decide +kernel
theorem dL_law_861 : decode cL_law 861 = .ok (.iconst 1, 1) := by decide +kernel
theorem dL_law_862 : decode cL_law 862 = .ok (.iadd, 1) := by decide +kernel
theorem dL_law_863 : decode cL_law 863 = .ok (.iaload, 1) := by decide +kernel
theorem dL_law_864 : decode cL_law 864 = .ok (.aload_n 0, 1) := by decide +kernel
theorem dL_law_865 : decode cL_law 865 = .ok (.iload_n 3, 1) := by decide +kernel
theorem dL_law_866 : decode cL_law 866 = .ok (.iconst 2, 1) := by decide +kernel
theorem dL_law_867 : decode cL_law 867 = .ok (.iadd, 1) := by decide +kernel
theorem dL_law_868 : decode cL_law 868 = .ok (.iaload, 1) := by decide +kernel
theorem dL_law_869 : decode cL_law 869 = .ok (.aload_n 0, 1) := by decide +kernel
theorem dL_law_870 : decode cL_law 870 = .ok (.iload_n 3, 1) := by decide +kernel
theorem dL_law_871 : decode cL_law 871 = .ok (.iconst 3, 1) := by decide +kernel
theorem dL_law_872 : decode cL_law 872 = .ok (.iadd, 1) := by decide +kernel
theorem dL_law_873 : decode cL_law 873 = .ok (.iaload, 1) := by decide +kernel
theorem dL_law_874 : decode cL_law 874 = .ok (.invokevirtual 105, 3) := by decide +kernel
theorem dL_law_877 : decode cL_law 877 = .ok (.if_icmp .eq 616, 3) := by decide +kernel
theorem dL_law_880 : decode cL_law 880 = .ok (.iconst 0, 1) := by decide +kernel
theorem dL_law_881 : decode cL_law 881 = .ok (.ireturn, 1) := by decide +kernel
theorem dL_law_882 : decode cL_law 882 = .ok (.aload_n 1, 1) := by decide +kernel
theorem dL_law_883 : decode cL_law 883 = .ok (.aload_n 0, 1) := by decide +kernel
theorem dL_law_884 : decode cL_law 884 = .ok (.iload_n 3, 1) := by decide +kernel
theorem dL_law_885 : decode cL_law 885 = .ok (.iconst 1, 1) := by decide +kernel
theorem dL_law_886 : decode cL_law 886 = .ok (.iadd, 1) := by decide +kernel
theorem dL_law_887 : decode cL_law 887 = .ok (.iaload, 1) := by decide +kernel
theorem dL_law_888 : decode cL_law 888 = .ok (.aload_n 0, 1) := by decide +kernel
theorem dL_law_889 : decode cL_law 889 = .ok (.iload_n 3, 1) := by decide +kernel
theorem dL_law_890 : decode cL_law 890 = .ok (.iconst 2, 1) := by decide +kernel
theorem dL_law_891 : decode cL_law 891 = .ok (.iadd, 1) := by decide +kernel
theorem dL_law_892 : decode cL_law 892 = .ok (.iaload, 1) := by decide +kernel
theorem dL_law_893 : decode cL_law 893 = .ok (.aload_n 0, 1) := by decide +kernel
theorem dL_law_894 : decode cL_law 894 = .ok (.iload_n 3, 1) := by decide +kernel
theorem dL_law_895 : decode cL_law 895 = .ok (.iconst 3, 1) := by decide +kernel
theorem dL_law_896 : decode cL_law 896 = .ok (.iadd, 1) := by decide +kernel
theorem dL_law_897 : decode cL_law 897 = .ok (.iaload, 1) := by decide +kernel
theorem dL_law_898 : decode cL_law 898 = .ok (.invokevirtual 106, 3) := by decide +kernel
theorem dL_law_901 : decode cL_law 901 = .ok (.aload_n 2, 1) := by decide +kernel
theorem dL_law_902 : decode cL_law 902 = .ok (.aload_n 0, 1) := by decide +kernel
theorem dL_law_903 : decode cL_law 903 = .ok (.iload_n 3, 1) := by decide +kernel
theorem dL_law_904 : decode cL_law 904 = .ok (.iconst 1, 1) := by decide +kernel
theorem dL_law_905 : decode cL_law 905 = .ok (.iadd, 1) := by decide +kernel
theorem dL_law_906 : decode cL_law 906 = .ok (.iaload, 1) := by decide +kernel
theorem dL_law_907 : decode cL_law 907 = .ok (.aload_n 0, 1) := by decide +kernel
theorem dL_law_908 : decode cL_law 908 = .ok (.iload_n 3, 1) := by decide +kernel
theorem dL_law_909 : decode cL_law 909 = .ok (.iconst 2, 1) := by decide +kernel
theorem dL_law_910 : decode cL_law 910 = .ok (.iadd, 1) := by decide +kernel
theorem dL_law_911 : decode cL_law 911 = .ok (.iaload, 1) := by decide +kernel
theorem dL_law_912 : decode cL_law 912 = .ok (.aload_n 0, 1) := by decide +kernel
theorem dL_law_913 : decode cL_law 913 = .ok (.iload_n 3, 1) := by decide +kernel
theorem dL_law_914 : decode cL_law 914 = .ok (.iconst 3, 1) := by decide +kernel
theorem dL_law_915 : decode cL_law 915 = .ok (.iadd, 1) := by decide +kernel
theorem dL_law_916 : decode cL_law 916 = .ok (.iaload, 1) := by decide +kernel
theorem dL_law_917 : decode cL_law 917 = .ok (.invokevirtual 109, 3) := by decide +kernel
theorem dL_law_920 : decode cL_law 920 = .ok (.if_icmp .eq 573, 3) := by decide +kernel
theorem dL_law_923 : decode cL_law 923 = .ok (.iconst 0, 1) := by decide +kernel
theorem dL_law_924 : decode cL_law 924 = .ok (.ireturn, 1) := by decide +kernel
theorem dL_law_925 : decode cL_law 925 = .ok (.aload_n 1, 1) := by decide +kernel
theorem dL_law_926 : decode cL_law 926 = .ok (.aload_n 0, 1) := by decide +kernel
theorem dL_law_927 : decode cL_law 927 = .ok (.iload_n 3, 1) := by decide +kernel
theorem dL_law_928 : decode cL_law 928 = .ok (.iconst 1, 1) := by decide +kernel
theorem dL_law_929 : decode cL_law 929 = .ok (.iadd, 1) := by decide +kernel
theorem dL_law_930 : decode cL_law 930 = .ok (.iaload, 1) := by decide +kernel
theorem dL_law_931 : decode cL_law 931 = .ok (.aload_n 0, 1) := by decide +kernel
theorem dL_law_932 : decode cL_law 932 = .ok (.iload_n 3, 1) := by decide +kernel
theorem dL_law_933 : decode cL_law 933 = .ok (.iconst 2, 1) := by decide +kernel
theorem dL_law_934 : decode cL_law 934 = .ok (.iadd, 1) := by decide +kernel
theorem dL_law_935 : decode cL_law 935 = .ok (.iaload, 1) := by decide +kernel
theorem dL_law_936 : decode cL_law 936 = .ok (.invokevirtual 110, 3) := by decide +kernel
theorem dL_law_939 : decode cL_law 939 = .ok (.aload_n 2, 1) := by decide +kernel
theorem dL_law_940 : decode cL_law 940 = .ok (.aload_n 0, 1) := by decide +kernel
theorem dL_law_941 : decode cL_law 941 = .ok (.iload_n 3, 1) := by decide +kernel
theorem dL_law_942 : decode cL_law 942 = .ok (.iconst 1, 1) := by decide +kernel
theorem dL_law_943 : decode cL_law 943 = .ok (.iadd, 1) := by decide +kernel
theorem dL_law_944 : decode cL_law 944 = .ok (.iaload, 1) := by decide +kernel
theorem dL_law_945 : decode cL_law 945 = .ok (.aload_n 0, 1) := by decide +kernel
theorem dL_law_946 : decode cL_law 946 = .ok (.iload_n 3, 1) := by decide +kernel
theorem dL_law_947 : decode cL_law 947 = .ok (.iconst 2, 1) := by decide +kernel
theorem dL_law_948 : decode cL_law 948 = .ok (.iadd, 1) := by decide +kernel
theorem dL_law_949 : decode cL_law 949 = .ok (.iaload, 1) := by decide +kernel
theorem dL_law_950 : decode cL_law 950 = .ok (.invokevirtual 113, 3) := by decide +kernel
theorem dL_law_953 : decode cL_law 953 = .ok (.if_icmp .eq 540, 3) := by decide +kernel
theorem dL_law_956 : decode cL_law 956 = .ok (.iconst 0, 1) := by decide +kernel
theorem dL_law_957 : decode cL_law 957 = .ok (.ireturn, 1) := by decide +kernel
theorem dL_law_958 : decode cL_law 958 = .ok (.aload_n 1, 1) := by decide +kernel
theorem dL_law_959 : decode cL_law 959 = .ok (.aload_n 0, 1) := by decide +kernel
theorem dL_law_960 : decode cL_law 960 = .ok (.iload_n 3, 1) := by decide +kernel
theorem dL_law_961 : decode cL_law 961 = .ok (.iconst 1, 1) := by decide +kernel
theorem dL_law_962 : decode cL_law 962 = .ok (.iadd, 1) := by decide +kernel
theorem dL_law_963 : decode cL_law 963 = .ok (.iaload, 1) := by decide +kernel
theorem dL_law_964 : decode cL_law 964 = .ok (.invokevirtual 114, 3) := by decide +kernel
theorem dL_law_967 : decode cL_law 967 = .ok (.aload_n 2, 1) := by decide +kernel
theorem dL_law_968 : decode cL_law 968 = .ok (.aload_n 0, 1) := by decide +kernel
theorem dL_law_969 : decode cL_law 969 = .ok (.iload_n 3, 1) := by decide +kernel
theorem dL_law_970 : decode cL_law 970 = .ok (.iconst 1, 1) := by decide +kernel
theorem dL_law_971 : decode cL_law 971 = .ok (.iadd, 1) := by decide +kernel
theorem dL_law_972 : decode cL_law 972 = .ok (.iaload, 1) := by decide +kernel
theorem dL_law_973 : decode cL_law 973 = .ok (.invokevirtual 117, 3) := by decide +kernel
theorem dL_law_976 : decode cL_law 976 = .ok (.if_icmp .eq 517, 3) := by decide +kernel
theorem dL_law_979 : decode cL_law 979 = .ok (.iconst 0, 1) := by decide +kernel
theorem dL_law_980 : decode cL_law 980 = .ok (.ireturn, 1) := by decide +kernel
theorem dL_law_981 : decode cL_law 981 = .ok (.aload_n 1, 1) := by decide +kernel
theorem dL_law_982 : decode cL_law 982 = .ok (.aload_n 0, 1) := by decide +kernel
theorem dL_law_983 : decode cL_law 983 = .ok (.iload_n 3, 1) := by decide +kernel
theorem dL_law_984 : decode cL_law 984 = .ok (.iconst 1, 1) := by decide +kernel
theorem dL_law_985 : decode cL_law 985 = .ok (.iadd, 1) := by decide +kernel
theorem dL_law_986 : decode cL_law 986 = .ok (.iaload, 1) := by decide +kernel
theorem dL_law_987 : decode cL_law 987 = .ok (.invokevirtual 118, 3) := by decide +kernel
theorem dL_law_990 : decode cL_law 990 = .ok (.aload_n 2, 1) := by decide +kernel
theorem dL_law_991 : decode cL_law 991 = .ok (.aload_n 0, 1) := by decide +kernel
theorem dL_law_992 : decode cL_law 992 = .ok (.iload_n 3, 1) := by decide +kernel
theorem dL_law_993 : decode cL_law 993 = .ok (.iconst 1, 1) := by decide +kernel
theorem dL_law_994 : decode cL_law 994 = .ok (.iadd, 1) := by decide +kernel
theorem dL_law_995 : decode cL_law 995 = .ok (.iaload, 1) := by decide +kernel
theorem dL_law_996 : decode cL_law 996 = .ok (.invokevirtual 121, 3) := by decide +kernel
theorem dL_law_999 : decode cL_law 999 = .ok (.if_icmp .eq 494, 3) := by decide +kernel
theorem dL_law_1002 : decode cL_law 1002 = .ok (.iconst 0, 1) := by decide +kernel
theorem dL_law_1003 : decode cL_law 1003 = .ok (.ireturn, 1) := by decide +kernel
theorem dL_law_1004 : decode cL_law 1004 = .ok (.aload_n 1, 1) := by decide +kernel
theorem dL_law_1005 : decode cL_law 1005 = .ok (.aload_n 0, 1) := by decide +kernel
theorem dL_law_1006 : decode cL_law 1006 = .ok (.iload_n 3, 1) := by decide +kernel
theorem dL_law_1007 : decode cL_law 1007 = .ok (.iconst 1, 1) := by decide +kernel
theorem dL_law_1008 : decode cL_law 1008 = .ok (.iadd, 1) := by decide +kernel
theorem dL_law_1009 : decode cL_law 1009 = .ok (.iaload, 1) := by decide +kernel
theorem dL_law_1010 : decode cL_law 1010 = .ok (.invokevirtual 122, 3) := by decide +kernel
theorem dL_law_1013 : decode cL_law 1013 = .ok (.aload_n 2, 1) := by decide +kernel
theorem dL_law_1014 : decode cL_law 1014 = .ok (.aload_n 0, 1) := by decide +kernel
theorem dL_law_1015 : decode cL_law 1015 = .ok (.iload_n 3, 1) := by decide +kernel
theorem dL_law_1016 : decode cL_law 1016 = .ok (.iconst 1, 1) := by decide +kernel
theorem dL_law_1017 : decode cL_law 1017 = .ok (.iadd, 1) := by decide +kernel
theorem dL_law_1018 : decode cL_law 1018 = .ok (.iaload, 1) := by decide +kernel
theorem dL_law_1019 : decode cL_law 1019 = .ok (.invokevirtual 125, 3) := by decide +kernel
theorem dL_law_1022 : decode cL_law 1022 = .ok (.if_icmp .eq 471, 3) := by decide +kernel
theorem dL_law_1025 : decode cL_law 1025 = .ok (.iconst 0, 1) := by decide +kernel
theorem dL_law_1026 : decode cL_law 1026 = .ok (.ireturn, 1) := by decide +kernel
theorem dL_law_1027 : decode cL_law 1027 = .ok (.aload_n 1, 1) := by decide +kernel
theorem dL_law_1028 : decode cL_law 1028 = .ok (.aload_n 0, 1) := by decide +kernel
theorem dL_law_1029 : decode cL_law 1029 = .ok (.iload_n 3, 1) := by decide +kernel
theorem dL_law_1030 : decode cL_law 1030 = .ok (.iconst 1, 1) := by decide +kernel
theorem dL_law_1031 : decode cL_law 1031 = .ok (.iadd, 1) := by decide +kernel
theorem dL_law_1032 : decode cL_law 1032 = .ok (.iaload, 1) := by decide +kernel
theorem dL_law_1033 : decode cL_law 1033 = .ok (.invokevirtual 126, 3) := by decide +kernel
theorem dL_law_1036 : decode cL_law 1036 = .ok (.aload_n 2, 1) := by decide +kernel
theorem dL_law_1037 : decode cL_law 1037 = .ok (.aload_n 0, 1) := by decide +kernel
theorem dL_law_1038 : decode cL_law 1038 = .ok (.iload_n 3, 1) := by decide +kernel
theorem dL_law_1039 : decode cL_law 1039 = .ok (.iconst 1, 1) := by decide +kernel
theorem dL_law_1040 : decode cL_law 1040 = .ok (.iadd, 1) := by decide +kernel
theorem dL_law_1041 : decode cL_law 1041 = .ok (.iaload, 1) := by decide +kernel
theorem dL_law_1042 : decode cL_law 1042 = .ok (.invokevirtual 129, 3) := by decide +kernel
theorem dL_law_1045 : decode cL_law 1045 = .ok (.if_icmp .eq 448, 3) := by decide +kernel
theorem dL_law_1048 : decode cL_law 1048 = .ok (.iconst 0, 1) := by decide +kernel
theorem dL_law_1049 : decode cL_law 1049 = .ok (.ireturn, 1) := by decide +kernel
theorem dL_law_1050 : decode cL_law 1050 = .ok (.aload_n 1, 1) := by decide +kernel
theorem dL_law_1051 : decode cL_law 1051 = .ok (.invokevirtual 130, 3) := by decide +kernel
theorem dL_law_1054 : decode cL_law 1054 = .ok (.aload_n 2, 1) := by decide +kernel
theorem dL_law_1055 : decode cL_law 1055 = .ok (.invokevirtual 133, 3) := by decide +kernel
theorem dL_law_1058 : decode cL_law 1058 = .ok (.if_icmp .eq 435, 3) := by decide +kernel
theorem dL_law_1061 : decode cL_law 1061 = .ok (.iconst 0, 1) := by decide +kernel
theorem dL_law_1062 : decode cL_law 1062 = .ok (.ireturn, 1) := by decide +kernel
theorem dL_law_1063 : decode cL_law 1063 = .ok (.aload_n 1, 1) := by decide +kernel
theorem dL_law_1064 : decode cL_law 1064 = .ok (.invokevirtual 134, 3) := by decide +kernel
theorem dL_law_1067 : decode cL_law 1067 = .ok (.aload_n 2, 1) := by decide +kernel
theorem dL_law_1068 : decode cL_law 1068 = .ok (.invokevirtual 137, 3) := by decide +kernel
theorem dL_law_1071 : decode cL_law 1071 = .ok (.if_icmp .eq 422, 3) := by decide +kernel
theorem dL_law_1074 : decode cL_law 1074 = .ok (.iconst 0, 1) := by decide +kernel
theorem dL_law_1075 : decode cL_law 1075 = .ok (.ireturn, 1) := by decide +kernel
theorem dL_law_1076 : decode cL_law 1076 = .ok (.aload_n 1, 1) := by decide +kernel
theorem dL_law_1077 : decode cL_law 1077 = .ok (.invokevirtual 138, 3) := by decide +kernel
theorem dL_law_1080 : decode cL_law 1080 = .ok (.aload_n 2, 1) := by decide +kernel
theorem dL_law_1081 : decode cL_law 1081 = .ok (.invokevirtual 141, 3) := by decide +kernel
theorem dL_law_1084 : decode cL_law 1084 = .ok (.if_icmp .eq 409, 3) := by decide +kernel
theorem dL_law_1087 : decode cL_law 1087 = .ok (.iconst 0, 1) := by decide +kernel
theorem dL_law_1088 : decode cL_law 1088 = .ok (.ireturn, 1) := by decide +kernel
theorem dL_law_1089 : decode cL_law 1089 = .ok (.aload_n 1, 1) := by decide +kernel
theorem dL_law_1090 : decode cL_law 1090 = .ok (.invokevirtual 142, 3) := by decide +kernel
theorem dL_law_1093 : decode cL_law 1093 = .ok (.aload_n 2, 1) := by decide +kernel
theorem dL_law_1094 : decode cL_law 1094 = .ok (.invokevirtual 145, 3) := by decide +kernel
theorem dL_law_1097 : decode cL_law 1097 = .ok (.if_icmp .eq 396, 3) := by decide +kernel
theorem dL_law_1100 : decode cL_law 1100 = .ok (.iconst 0, 1) := by decide +kernel
theorem dL_law_1101 : decode cL_law 1101 = .ok (.ireturn, 1) := by decide +kernel
theorem dL_law_1102 : decode cL_law 1102 = .ok (.aload_n 1, 1) := by decide +kernel
theorem dL_law_1103 : decode cL_law 1103 = .ok (.aload_n 0, 1) := by decide +kernel
theorem dL_law_1104 : decode cL_law 1104 = .ok (.iload_n 3, 1) := by decide +kernel
theorem dL_law_1105 : decode cL_law 1105 = .ok (.iconst 1, 1) := by decide +kernel
theorem dL_law_1106 : decode cL_law 1106 = .ok (.iadd, 1) := by decide +kernel
theorem dL_law_1107 : decode cL_law 1107 = .ok (.iaload, 1) := by decide +kernel
theorem dL_law_1108 : decode cL_law 1108 = .ok (.invokevirtual 146, 3) := by decide +kernel
theorem dL_law_1111 : decode cL_law 1111 = .ok (.aload_n 2, 1) := by decide +kernel
theorem dL_law_1112 : decode cL_law 1112 = .ok (.aload_n 0, 1) := by decide +kernel
theorem dL_law_1113 : decode cL_law 1113 = .ok (.iload_n 3, 1) := by decide +kernel
theorem dL_law_1114 : decode cL_law 1114 = .ok (.iconst 1, 1) := by decide +kernel
theorem dL_law_1115 : decode cL_law 1115 = .ok (.iadd, 1) := by decide +kernel
theorem dL_law_1116 : decode cL_law 1116 = .ok (.iaload, 1) := by decide +kernel
theorem dL_law_1117 : decode cL_law 1117 = .ok (.invokevirtual 149, 3) := by decide +kernel
theorem dL_law_1120 : decode cL_law 1120 = .ok (.if_icmp .eq 373, 3) := by decide +kernel
theorem dL_law_1123 : decode cL_law 1123 = .ok (.iconst 0, 1) := by decide +kernel
theorem dL_law_1124 : decode cL_law 1124 = .ok (.ireturn, 1) := by decide +kernel
theorem dL_law_1125 : decode cL_law 1125 = .ok (.aload_n 1, 1) := by decide +kernel
theorem dL_law_1126 : decode cL_law 1126 = .ok (.aload_n 0, 1) := by decide +kernel
theorem dL_law_1127 : decode cL_law 1127 = .ok (.iload_n 3, 1) := by decide +kernel
theorem dL_law_1128 : decode cL_law 1128 = .ok (.iconst 1, 1) := by decide +kernel
theorem dL_law_1129 : decode cL_law 1129 = .ok (.iadd, 1) := by decide +kernel
theorem dL_law_1130 : decode cL_law 1130 = .ok (.iaload, 1) := by decide +kernel
theorem dL_law_1131 : decode cL_law 1131 = .ok (.aload_n 0, 1) := by decide +kernel
theorem dL_law_1132 : decode cL_law 1132 = .ok (.iload_n 3, 1) := by decide +kernel
theorem dL_law_1133 : decode cL_law 1133 = .ok (.iconst 2, 1) := by decide +kernel
theorem dL_law_1134 : decode cL_law 1134 = .ok (.iadd, 1) := by decide +kernel
theorem dL_law_1135 : decode cL_law 1135 = .ok (.iaload, 1) := by decide +kernel
theorem dL_law_1136 : decode cL_law 1136 = .ok (.aload_n 0, 1) := by decide +kernel
theorem dL_law_1137 : decode cL_law 1137 = .ok (.iload_n 3, 1) := by decide +kernel
theorem dL_law_1138 : decode cL_law 1138 = .ok (.iconst 3, 1) := by decide +kernel
theorem dL_law_1139 : decode cL_law 1139 = .ok (.iadd, 1) := by decide +kernel
theorem dL_law_1140 : decode cL_law 1140 = .ok (.iaload, 1) := by decide +kernel
theorem dL_law_1141 : decode cL_law 1141 = .ok (.invokevirtual 150, 3) := by decide +kernel
theorem dL_law_1144 : decode cL_law 1144 = .ok (.aload_n 2, 1) := by decide +kernel
theorem dL_law_1145 : decode cL_law 1145 = .ok (.aload_n 0, 1) := by decide +kernel
theorem dL_law_1146 : decode cL_law 1146 = .ok (.iload_n 3, 1) := by decide +kernel
theorem dL_law_1147 : decode cL_law 1147 = .ok (.iconst 1, 1) := by decide +kernel
theorem dL_law_1148 : decode cL_law 1148 = .ok (.iadd, 1) := by decide +kernel
theorem dL_law_1149 : decode cL_law 1149 = .ok (.iaload, 1) := by decide +kernel
theorem dL_law_1150 : decode cL_law 1150 = .ok (.aload_n 0, 1) := by decide +kernel
theorem dL_law_1151 : decode cL_law 1151 = .ok (.iload_n 3, 1) := by decide +kernel
theorem dL_law_1152 : decode cL_law 1152 = .ok (.iconst 2, 1) := by decide +kernel
theorem dL_law_1153 : decode cL_law 1153 = .ok (.iadd, 1) := by decide +kernel
theorem dL_law_1154 : decode cL_law 1154 = .ok (.iaload, 1) := by decide +kernel
theorem dL_law_1155 : decode cL_law 1155 = .ok (.aload_n 0, 1) := by decide +kernel
theorem dL_law_1156 : decode cL_law 1156 = .ok (.iload_n 3, 1) := by decide +kernel
theorem dL_law_1157 : decode cL_law 1157 = .ok (.iconst 3, 1) := by decide +kernel
theorem dL_law_1158 : decode cL_law 1158 = .ok (.iadd, 1) := by decide +kernel
theorem dL_law_1159 : decode cL_law 1159 = .ok (.iaload, 1) := by decide +kernel
theorem dL_law_1160 : decode cL_law 1160 = .ok (.invokevirtual 153, 3) := by decide +kernel
theorem dL_law_1163 : decode cL_law 1163 = .ok (.if_icmp .eq 330, 3) := by decide +kernel
theorem dL_law_1166 : decode cL_law 1166 = .ok (.iconst 0, 1) := by decide +kernel
theorem dL_law_1167 : decode cL_law 1167 = .ok (.ireturn, 1) := by decide +kernel
theorem dL_law_1168 : decode cL_law 1168 = .ok (.aload_n 1, 1) := by decide +kernel
theorem dL_law_1169 : decode cL_law 1169 = .ok (.aload_n 0, 1) := by decide +kernel
theorem dL_law_1170 : decode cL_law 1170 = .ok (.iload_n 3, 1) := by decide +kernel
theorem dL_law_1171 : decode cL_law 1171 = .ok (.iconst 1, 1) := by decide +kernel
theorem dL_law_1172 : decode cL_law 1172 = .ok (.iadd, 1) := by decide +kernel
theorem dL_law_1173 : decode cL_law 1173 = .ok (.iaload, 1) := by decide +kernel
theorem dL_law_1174 : decode cL_law 1174 = .ok (.invokevirtual 154, 3) := by decide +kernel
theorem dL_law_1177 : decode cL_law 1177 = .ok (.aload_n 2, 1) := by decide +kernel
theorem dL_law_1178 : decode cL_law 1178 = .ok (.aload_n 0, 1) := by decide +kernel
theorem dL_law_1179 : decode cL_law 1179 = .ok (.iload_n 3, 1) := by decide +kernel
theorem dL_law_1180 : decode cL_law 1180 = .ok (.iconst 1, 1) := by decide +kernel
theorem dL_law_1181 : decode cL_law 1181 = .ok (.iadd, 1) := by decide +kernel
theorem dL_law_1182 : decode cL_law 1182 = .ok (.iaload, 1) := by decide +kernel
theorem dL_law_1183 : decode cL_law 1183 = .ok (.invokevirtual 157, 3) := by decide +kernel
theorem dL_law_1186 : decode cL_law 1186 = .ok (.if_icmp .eq 307, 3) := by decide +kernel
theorem dL_law_1189 : decode cL_law 1189 = .ok (.iconst 0, 1) := by decide +kernel
theorem dL_law_1190 : decode cL_law 1190 = .ok (.ireturn, 1) := by decide +kernel
theorem dL_law_1191 : decode cL_law 1191 = .ok (.aload_n 1, 1) := by decide +kernel
theorem dL_law_1192 : decode cL_law 1192 = .ok (.aload_n 0, 1) := by decide +kernel
theorem dL_law_1193 : decode cL_law 1193 = .ok (.iload_n 3, 1) := by decide +kernel
theorem dL_law_1194 : decode cL_law 1194 = .ok (.iconst 1, 1) := by decide +kernel
theorem dL_law_1195 : decode cL_law 1195 = .ok (.iadd, 1) := by decide +kernel
theorem dL_law_1196 : decode cL_law 1196 = .ok (.iaload, 1) := by decide +kernel
theorem dL_law_1197 : decode cL_law 1197 = .ok (.aload_n 0, 1) := by decide +kernel
theorem dL_law_1198 : decode cL_law 1198 = .ok (.iload_n 3, 1) := by decide +kernel
theorem dL_law_1199 : decode cL_law 1199 = .ok (.iconst 2, 1) := by decide +kernel
theorem dL_law_1200 : decode cL_law 1200 = .ok (.iadd, 1) := by decide +kernel
theorem dL_law_1201 : decode cL_law 1201 = .ok (.iaload, 1) := by decide +kernel
theorem dL_law_1202 : decode cL_law 1202 = .ok (.invokevirtual 158, 3) := by decide +kernel
theorem dL_law_1205 : decode cL_law 1205 = .ok (.aload_n 2, 1) := by decide +kernel
theorem dL_law_1206 : decode cL_law 1206 = .ok (.aload_n 0, 1) := by decide +kernel
theorem dL_law_1207 : decode cL_law 1207 = .ok (.iload_n 3, 1) := by decide +kernel
theorem dL_law_1208 : decode cL_law 1208 = .ok (.iconst 1, 1) := by decide +kernel
theorem dL_law_1209 : decode cL_law 1209 = .ok (.iadd, 1) := by decide +kernel
theorem dL_law_1210 : decode cL_law 1210 = .ok (.iaload, 1) := by decide +kernel
theorem dL_law_1211 : decode cL_law 1211 = .ok (.aload_n 0, 1) := by decide +kernel
theorem dL_law_1212 : decode cL_law 1212 = .ok (.iload_n 3, 1) := by decide +kernel
theorem dL_law_1213 : decode cL_law 1213 = .ok (.iconst 2, 1) := by decide +kernel
theorem dL_law_1214 : decode cL_law 1214 = .ok (.iadd, 1) := by decide +kernel
theorem dL_law_1215 : decode cL_law 1215 = .ok (.iaload, 1) := by decide +kernel
theorem dL_law_1216 : decode cL_law 1216 = .ok (.invokevirtual 161, 3) := by decide +kernel
theorem dL_law_1219 : decode cL_law 1219 = .ok (.if_icmp .eq 274, 3) := by decide +kernel
theorem dL_law_1222 : decode cL_law 1222 = .ok (.iconst 0, 1) := by decide +kernel
theorem dL_law_1223 : decode cL_law 1223 = .ok (.ireturn, 1) := by decide +kernel
theorem dL_law_1224 : decode cL_law 1224 = .ok (.aload_n 1, 1) := by decide +kernel
theorem dL_law_1225 : decode cL_law 1225 = .ok (.aload_n 0, 1) := by decide +kernel
theorem dL_law_1226 : decode cL_law 1226 = .ok (.iload_n 3, 1) := by decide +kernel
theorem dL_law_1227 : decode cL_law 1227 = .ok (.iconst 1, 1) := by decide +kernel
theorem dL_law_1228 : decode cL_law 1228 = .ok (.iadd, 1) := by decide +kernel
theorem dL_law_1229 : decode cL_law 1229 = .ok (.iaload, 1) := by decide +kernel
theorem dL_law_1230 : decode cL_law 1230 = .ok (.aload_n 0, 1) := by decide +kernel
theorem dL_law_1231 : decode cL_law 1231 = .ok (.iload_n 3, 1) := by decide +kernel
theorem dL_law_1232 : decode cL_law 1232 = .ok (.iconst 2, 1) := by decide +kernel
theorem dL_law_1233 : decode cL_law 1233 = .ok (.iadd, 1) := by decide +kernel
theorem dL_law_1234 : decode cL_law 1234 = .ok (.iaload, 1) := by decide +kernel
theorem dL_law_1235 : decode cL_law 1235 = .ok (.aload_n 0, 1) := by decide +kernel
theorem dL_law_1236 : decode cL_law 1236 = .ok (.iload_n 3, 1) := by decide +kernel
theorem dL_law_1237 : decode cL_law 1237 = .ok (.iconst 3, 1) := by decide +kernel
theorem dL_law_1238 : decode cL_law 1238 = .ok (.iadd, 1) := by decide +kernel
theorem dL_law_1239 : decode cL_law 1239 = .ok (.iaload, 1) := by decide +kernel
theorem dL_law_1240 : decode cL_law 1240 = .ok (.invokevirtual 162, 3) := by decide +kernel
theorem dL_law_1243 : decode cL_law 1243 = .ok (.aload_n 2, 1) := by decide +kernel
theorem dL_law_1244 : decode cL_law 1244 = .ok (.aload_n 0, 1) := by decide +kernel
theorem dL_law_1245 : decode cL_law 1245 = .ok (.iload_n 3, 1) := by decide +kernel
theorem dL_law_1246 : decode cL_law 1246 = .ok (.iconst 1, 1) := by decide +kernel
theorem dL_law_1247 : decode cL_law 1247 = .ok (.iadd, 1) := by decide +kernel
theorem dL_law_1248 : decode cL_law 1248 = .ok (.iaload, 1) := by decide +kernel
theorem dL_law_1249 : decode cL_law 1249 = .ok (.aload_n 0, 1) := by decide +kernel
theorem dL_law_1250 : decode cL_law 1250 = .ok (.iload_n 3, 1) := by decide +kernel
theorem dL_law_1251 : decode cL_law 1251 = .ok (.iconst 2, 1) := by decide +kernel
theorem dL_law_1252 : decode cL_law 1252 = .ok (.iadd, 1) := by decide +kernel
theorem dL_law_1253 : decode cL_law 1253 = .ok (.iaload, 1) := by decide +kernel
theorem dL_law_1254 : decode cL_law 1254 = .ok (.aload_n 0, 1) := by decide +kernel
theorem dL_law_1255 : decode cL_law 1255 = .ok (.iload_n 3, 1) := by decide +kernel
theorem dL_law_1256 : decode cL_law 1256 = .ok (.iconst 3, 1) := by decide +kernel
theorem dL_law_1257 : decode cL_law 1257 = .ok (.iadd, 1) := by decide +kernel
theorem dL_law_1258 : decode cL_law 1258 = .ok (.iaload, 1) := by decide +kernel
theorem dL_law_1259 : decode cL_law 1259 = .ok (.invokevirtual 165, 3) := by decide +kernel
theorem dL_law_1262 : decode cL_law 1262 = .ok (.if_icmp .eq 231, 3) := by decide +kernel
theorem dL_law_1265 : decode cL_law 1265 = .ok (.iconst 0, 1) := by decide +kernel
theorem dL_law_1266 : decode cL_law 1266 = .ok (.ireturn, 1) := by decide +kernel
theorem dL_law_1267 : decode cL_law 1267 = .ok (.aload_n 1, 1) := by decide +kernel
theorem dL_law_1268 : decode cL_law 1268 = .ok (.aload_n 0, 1) := by decide +kernel
theorem dL_law_1269 : decode cL_law 1269 = .ok (.iload_n 3, 1) := by decide +kernel
theorem dL_law_1270 : decode cL_law 1270 = .ok (.iconst 1, 1) := by decide +kernel
theorem dL_law_1271 : decode cL_law 1271 = .ok (.iadd, 1) := by decide +kernel
theorem dL_law_1272 : decode cL_law 1272 = .ok (.iaload, 1) := by decide +kernel
theorem dL_law_1273 : decode cL_law 1273 = .ok (.aload_n 0, 1) := by decide +kernel
theorem dL_law_1274 : decode cL_law 1274 = .ok (.iload_n 3, 1) := by decide +kernel
theorem dL_law_1275 : decode cL_law 1275 = .ok (.iconst 2, 1) := by decide +kernel
theorem dL_law_1276 : decode cL_law 1276 = .ok (.iadd, 1) := by decide +kernel
theorem dL_law_1277 : decode cL_law 1277 = .ok (.iaload, 1) := by decide +kernel
theorem dL_law_1278 : decode cL_law 1278 = .ok (.aload_n 0, 1) := by decide +kernel
theorem dL_law_1279 : decode cL_law 1279 = .ok (.iload_n 3, 1) := by decide +kernel
theorem dL_law_1280 : decode cL_law 1280 = .ok (.iconst 3, 1) := by decide +kernel
theorem dL_law_1281 : decode cL_law 1281 = .ok (.iadd, 1) := by decide +kernel
theorem dL_law_1282 : decode cL_law 1282 = .ok (.iaload, 1) := by decide +kernel
theorem dL_law_1283 : decode cL_law 1283 = .ok (.i2l, 1) := by decide +kernel
theorem dL_law_1284 : decode cL_law 1284 = .ok (.bipush 32, 2) := by decide +kernel
theorem dL_law_1286 : decode cL_law 1286 = .ok (.lshl, 1) := by decide +kernel
theorem dL_law_1287 : decode cL_law 1287 = .ok (.aload_n 0, 1) := by decide +kernel
theorem dL_law_1288 : decode cL_law 1288 = .ok (.iload_n 3, 1) := by decide +kernel
theorem dL_law_1289 : decode cL_law 1289 = .ok (.iconst 4, 1) := by decide +kernel
theorem dL_law_1290 : decode cL_law 1290 = .ok (.iadd, 1) := by decide +kernel
theorem dL_law_1291 : decode cL_law 1291 = .ok (.iaload, 1) := by decide +kernel
theorem dL_law_1292 : decode cL_law 1292 = .ok (.i2l, 1) := by decide +kernel
theorem dL_law_1293 : decode cL_law 1293 = .ok (.ldc2_w 166, 3) := by decide +kernel
theorem dL_law_1296 : decode cL_law 1296 = .ok (.land, 1) := by decide +kernel
theorem dL_law_1297 : decode cL_law 1297 = .ok (.lor, 1) := by decide +kernel
theorem dL_law_1298 : decode cL_law 1298 = .ok (.invokevirtual 168, 3) := by decide +kernel
theorem dL_law_1301 : decode cL_law 1301 = .ok (.aload_n 2, 1) := by decide +kernel
theorem dL_law_1302 : decode cL_law 1302 = .ok (.aload_n 0, 1) := by decide +kernel
theorem dL_law_1303 : decode cL_law 1303 = .ok (.iload_n 3, 1) := by decide +kernel
theorem dL_law_1304 : decode cL_law 1304 = .ok (.iconst 1, 1) := by decide +kernel
theorem dL_law_1305 : decode cL_law 1305 = .ok (.iadd, 1) := by decide +kernel
theorem dL_law_1306 : decode cL_law 1306 = .ok (.iaload, 1) := by decide +kernel
theorem dL_law_1307 : decode cL_law 1307 = .ok (.aload_n 0, 1) := by decide +kernel
theorem dL_law_1308 : decode cL_law 1308 = .ok (.iload_n 3, 1) := by decide +kernel
theorem dL_law_1309 : decode cL_law 1309 = .ok (.iconst 2, 1) := by decide +kernel
theorem dL_law_1310 : decode cL_law 1310 = .ok (.iadd, 1) := by decide +kernel
theorem dL_law_1311 : decode cL_law 1311 = .ok (.iaload, 1) := by decide +kernel
theorem dL_law_1312 : decode cL_law 1312 = .ok (.aload_n 0, 1) := by decide +kernel
theorem dL_law_1313 : decode cL_law 1313 = .ok (.iload_n 3, 1) := by decide +kernel
theorem dL_law_1314 : decode cL_law 1314 = .ok (.iconst 3, 1) := by decide +kernel
theorem dL_law_1315 : decode cL_law 1315 = .ok (.iadd, 1) := by decide +kernel
theorem dL_law_1316 : decode cL_law 1316 = .ok (.iaload, 1) := by decide +kernel
theorem dL_law_1317 : decode cL_law 1317 = .ok (.i2l, 1) := by decide +kernel
theorem dL_law_1318 : decode cL_law 1318 = .ok (.bipush 32, 2) := by decide +kernel
theorem dL_law_1320 : decode cL_law 1320 = .ok (.lshl, 1) := by decide +kernel
theorem dL_law_1321 : decode cL_law 1321 = .ok (.aload_n 0, 1) := by decide +kernel
theorem dL_law_1322 : decode cL_law 1322 = .ok (.iload_n 3, 1) := by decide +kernel
theorem dL_law_1323 : decode cL_law 1323 = .ok (.iconst 4, 1) := by decide +kernel
theorem dL_law_1324 : decode cL_law 1324 = .ok (.iadd, 1) := by decide +kernel
theorem dL_law_1325 : decode cL_law 1325 = .ok (.iaload, 1) := by decide +kernel
theorem dL_law_1326 : decode cL_law 1326 = .ok (.i2l, 1) := by decide +kernel
theorem dL_law_1327 : decode cL_law 1327 = .ok (.ldc2_w 166, 3) := by decide +kernel
theorem dL_law_1330 : decode cL_law 1330 = .ok (.land, 1) := by decide +kernel
theorem dL_law_1331 : decode cL_law 1331 = .ok (.lor, 1) := by decide +kernel
theorem dL_law_1332 : decode cL_law 1332 = .ok (.invokevirtual 172, 3) := by decide +kernel
theorem dL_law_1335 : decode cL_law 1335 = .ok (.if_icmp .eq 158, 3) := by decide +kernel
theorem dL_law_1338 : decode cL_law 1338 = .ok (.iconst 0, 1) := by decide +kernel
theorem dL_law_1339 : decode cL_law 1339 = .ok (.ireturn, 1) := by decide +kernel
theorem dL_law_1340 : decode cL_law 1340 = .ok (.aload_n 1, 1) := by decide +kernel
theorem dL_law_1341 : decode cL_law 1341 = .ok (.aload_n 0, 1) := by decide +kernel
theorem dL_law_1342 : decode cL_law 1342 = .ok (.iload_n 3, 1) := by decide +kernel
theorem dL_law_1343 : decode cL_law 1343 = .ok (.iconst 1, 1) := by decide +kernel
theorem dL_law_1344 : decode cL_law 1344 = .ok (.iadd, 1) := by decide +kernel
theorem dL_law_1345 : decode cL_law 1345 = .ok (.iaload, 1) := by decide +kernel
theorem dL_law_1346 : decode cL_law 1346 = .ok (.aload_n 0, 1) := by decide +kernel
theorem dL_law_1347 : decode cL_law 1347 = .ok (.iload_n 3, 1) := by decide +kernel
theorem dL_law_1348 : decode cL_law 1348 = .ok (.iconst 2, 1) := by decide +kernel
theorem dL_law_1349 : decode cL_law 1349 = .ok (.iadd, 1) := by decide +kernel
theorem dL_law_1350 : decode cL_law 1350 = .ok (.iaload, 1) := by decide +kernel
theorem dL_law_1351 : decode cL_law 1351 = .ok (.invokevirtual 173, 3) := by decide +kernel
theorem dL_law_1354 : decode cL_law 1354 = .ok (.aload_n 2, 1) := by decide +kernel
theorem dL_law_1355 : decode cL_law 1355 = .ok (.aload_n 0, 1) := by decide +kernel
theorem dL_law_1356 : decode cL_law 1356 = .ok (.iload_n 3, 1) := by decide +kernel
theorem dL_law_1357 : decode cL_law 1357 = .ok (.iconst 1, 1) := by decide +kernel
theorem dL_law_1358 : decode cL_law 1358 = .ok (.iadd, 1) := by decide +kernel
theorem dL_law_1359 : decode cL_law 1359 = .ok (.iaload, 1) := by decide +kernel
theorem dL_law_1360 : decode cL_law 1360 = .ok (.aload_n 0, 1) := by decide +kernel
theorem dL_law_1361 : decode cL_law 1361 = .ok (.iload_n 3, 1) := by decide +kernel
theorem dL_law_1362 : decode cL_law 1362 = .ok (.iconst 2, 1) := by decide +kernel
theorem dL_law_1363 : decode cL_law 1363 = .ok (.iadd, 1) := by decide +kernel
theorem dL_law_1364 : decode cL_law 1364 = .ok (.iaload, 1) := by decide +kernel
theorem dL_law_1365 : decode cL_law 1365 = .ok (.invokevirtual 177, 3) := by decide +kernel
theorem dL_law_1368 : decode cL_law 1368 = .ok (.lcmp, 1) := by decide +kernel
theorem dL_law_1369 : decode cL_law 1369 = .ok (.ifCond .eq 124, 3) := by decide +kernel
theorem dL_law_1372 : decode cL_law 1372 = .ok (.iconst 0, 1) := by decide +kernel
theorem dL_law_1373 : decode cL_law 1373 = .ok (.ireturn, 1) := by decide +kernel
theorem dL_law_1374 : decode cL_law 1374 = .ok (.aload_n 1, 1) := by decide +kernel
theorem dL_law_1375 : decode cL_law 1375 = .ok (.aload_n 0, 1) := by decide +kernel
theorem dL_law_1376 : decode cL_law 1376 = .ok (.iload_n 3, 1) := by decide +kernel
theorem dL_law_1377 : decode cL_law 1377 = .ok (.iconst 1, 1) := by decide +kernel
theorem dL_law_1378 : decode cL_law 1378 = .ok (.iadd, 1) := by decide +kernel
theorem dL_law_1379 : decode cL_law 1379 = .ok (.iaload, 1) := by decide +kernel
theorem dL_law_1380 : decode cL_law 1380 = .ok (.aload_n 0, 1) := by decide +kernel
theorem dL_law_1381 : decode cL_law 1381 = .ok (.iload_n 3, 1) := by decide +kernel
theorem dL_law_1382 : decode cL_law 1382 = .ok (.iconst 2, 1) := by decide +kernel
theorem dL_law_1383 : decode cL_law 1383 = .ok (.iadd, 1) := by decide +kernel
theorem dL_law_1384 : decode cL_law 1384 = .ok (.iaload, 1) := by decide +kernel
theorem dL_law_1385 : decode cL_law 1385 = .ok (.aload_n 0, 1) := by decide +kernel
theorem dL_law_1386 : decode cL_law 1386 = .ok (.iload_n 3, 1) := by decide +kernel
theorem dL_law_1387 : decode cL_law 1387 = .ok (.iconst 3, 1) := by decide +kernel
theorem dL_law_1388 : decode cL_law 1388 = .ok (.iadd, 1) := by decide +kernel
theorem dL_law_1389 : decode cL_law 1389 = .ok (.iaload, 1) := by decide +kernel
theorem dL_law_1390 : decode cL_law 1390 = .ok (.aload_n 0, 1) := by decide +kernel
theorem dL_law_1391 : decode cL_law 1391 = .ok (.iload_n 3, 1) := by decide +kernel
theorem dL_law_1392 : decode cL_law 1392 = .ok (.iconst 4, 1) := by decide +kernel
theorem dL_law_1393 : decode cL_law 1393 = .ok (.iadd, 1) := by decide +kernel
theorem dL_law_1394 : decode cL_law 1394 = .ok (.iaload, 1) := by decide +kernel
theorem dL_law_1395 : decode cL_law 1395 = .ok (.aload_n 0, 1) := by decide +kernel
theorem dL_law_1396 : decode cL_law 1396 = .ok (.iload_n 3, 1) := by decide +kernel
theorem dL_law_1397 : decode cL_law 1397 = .ok (.iconst 5, 1) := by decide +kernel
theorem dL_law_1398 : decode cL_law 1398 = .ok (.iadd, 1) := by decide +kernel
theorem dL_law_1399 : decode cL_law 1399 = .ok (.iaload, 1) := by decide +kernel
theorem dL_law_1400 : decode cL_law 1400 = .ok (.invokevirtual 178, 3) := by decide +kernel
theorem dL_law_1403 : decode cL_law 1403 = .ok (.aload_n 2, 1) := by decide +kernel
theorem dL_law_1404 : decode cL_law 1404 = .ok (.aload_n 0, 1) := by decide +kernel
theorem dL_law_1405 : decode cL_law 1405 = .ok (.iload_n 3, 1) := by decide +kernel
theorem dL_law_1406 : decode cL_law 1406 = .ok (.iconst 1, 1) := by decide +kernel
theorem dL_law_1407 : decode cL_law 1407 = .ok (.iadd, 1) := by decide +kernel
theorem dL_law_1408 : decode cL_law 1408 = .ok (.iaload, 1) := by decide +kernel
theorem dL_law_1409 : decode cL_law 1409 = .ok (.aload_n 0, 1) := by decide +kernel
theorem dL_law_1410 : decode cL_law 1410 = .ok (.iload_n 3, 1) := by decide +kernel
theorem dL_law_1411 : decode cL_law 1411 = .ok (.iconst 2, 1) := by decide +kernel
theorem dL_law_1412 : decode cL_law 1412 = .ok (.iadd, 1) := by decide +kernel
theorem dL_law_1413 : decode cL_law 1413 = .ok (.iaload, 1) := by decide +kernel
theorem dL_law_1414 : decode cL_law 1414 = .ok (.aload_n 0, 1) := by decide +kernel
theorem dL_law_1415 : decode cL_law 1415 = .ok (.iload_n 3, 1) := by decide +kernel
theorem dL_law_1416 : decode cL_law 1416 = .ok (.iconst 3, 1) := by decide +kernel
theorem dL_law_1417 : decode cL_law 1417 = .ok (.iadd, 1) := by decide +kernel
theorem dL_law_1418 : decode cL_law 1418 = .ok (.iaload, 1) := by decide +kernel
theorem dL_law_1419 : decode cL_law 1419 = .ok (.aload_n 0, 1) := by decide +kernel
theorem dL_law_1420 : decode cL_law 1420 = .ok (.iload_n 3, 1) := by decide +kernel
theorem dL_law_1421 : decode cL_law 1421 = .ok (.iconst 4, 1) := by decide +kernel
theorem dL_law_1422 : decode cL_law 1422 = .ok (.iadd, 1) := by decide +kernel
theorem dL_law_1423 : decode cL_law 1423 = .ok (.iaload, 1) := by decide +kernel
theorem dL_law_1424 : decode cL_law 1424 = .ok (.aload_n 0, 1) := by decide +kernel
theorem dL_law_1425 : decode cL_law 1425 = .ok (.iload_n 3, 1) := by decide +kernel
theorem dL_law_1426 : decode cL_law 1426 = .ok (.iconst 5, 1) := by decide +kernel
theorem dL_law_1427 : decode cL_law 1427 = .ok (.iadd, 1) := by decide +kernel
theorem dL_law_1428 : decode cL_law 1428 = .ok (.iaload, 1) := by decide +kernel
theorem dL_law_1429 : decode cL_law 1429 = .ok (.invokevirtual 182, 3) := by decide +kernel
theorem dL_law_1432 : decode cL_law 1432 = .ok (.if_icmp .eq 61, 3) := by decide +kernel
theorem dL_law_1435 : decode cL_law 1435 = .ok (.iconst 0, 1) := by decide +kernel
theorem dL_law_1436 : decode cL_law 1436 = .ok (.ireturn, 1) := by decide +kernel
theorem dL_law_1437 : decode cL_law 1437 = .ok (.aload_n 1, 1) := by decide +kernel
theorem dL_law_1438 : decode cL_law 1438 = .ok (.aload_n 0, 1) := by decide +kernel
theorem dL_law_1439 : decode cL_law 1439 = .ok (.iload_n 3, 1) := by decide +kernel
theorem dL_law_1440 : decode cL_law 1440 = .ok (.iconst 1, 1) := by decide +kernel
theorem dL_law_1441 : decode cL_law 1441 = .ok (.iadd, 1) := by decide +kernel
theorem dL_law_1442 : decode cL_law 1442 = .ok (.iaload, 1) := by decide +kernel
theorem dL_law_1443 : decode cL_law 1443 = .ok (.aload_n 0, 1) := by decide +kernel
theorem dL_law_1444 : decode cL_law 1444 = .ok (.iload_n 3, 1) := by decide +kernel
theorem dL_law_1445 : decode cL_law 1445 = .ok (.iconst 2, 1) := by decide +kernel
theorem dL_law_1446 : decode cL_law 1446 = .ok (.iadd, 1) := by decide +kernel
theorem dL_law_1447 : decode cL_law 1447 = .ok (.iaload, 1) := by decide +kernel
theorem dL_law_1448 : decode cL_law 1448 = .ok (.invokevirtual 183, 3) := by decide +kernel
theorem dL_law_1451 : decode cL_law 1451 = .ok (.aload_n 2, 1) := by decide +kernel
theorem dL_law_1452 : decode cL_law 1452 = .ok (.aload_n 0, 1) := by decide +kernel
theorem dL_law_1453 : decode cL_law 1453 = .ok (.iload_n 3, 1) := by decide +kernel
theorem dL_law_1454 : decode cL_law 1454 = .ok (.iconst 1, 1) := by decide +kernel
theorem dL_law_1455 : decode cL_law 1455 = .ok (.iadd, 1) := by decide +kernel
theorem dL_law_1456 : decode cL_law 1456 = .ok (.iaload, 1) := by decide +kernel
theorem dL_law_1457 : decode cL_law 1457 = .ok (.aload_n 0, 1) := by decide +kernel
theorem dL_law_1458 : decode cL_law 1458 = .ok (.iload_n 3, 1) := by decide +kernel
theorem dL_law_1459 : decode cL_law 1459 = .ok (.iconst 2, 1) := by decide +kernel
theorem dL_law_1460 : decode cL_law 1460 = .ok (.iadd, 1) := by decide +kernel
theorem dL_law_1461 : decode cL_law 1461 = .ok (.iaload, 1) := by decide +kernel
theorem dL_law_1462 : decode cL_law 1462 = .ok (.invokevirtual 186, 3) := by decide +kernel
theorem dL_law_1465 : decode cL_law 1465 = .ok (.if_icmp .eq 28, 3) := by decide +kernel
theorem dL_law_1468 : decode cL_law 1468 = .ok (.iconst 0, 1) := by decide +kernel
theorem dL_law_1469 : decode cL_law 1469 = .ok (.ireturn, 1) := by decide +kernel
theorem dL_law_1470 : decode cL_law 1470 = .ok (.aload_n 1, 1) := by decide +kernel
theorem dL_law_1471 : decode cL_law 1471 = .ok (.aload_n 0, 1) := by decide +kernel
theorem dL_law_1472 : decode cL_law 1472 = .ok (.iload_n 3, 1) := by decide +kernel
theorem dL_law_1473 : decode cL_law 1473 = .ok (.iconst 1, 1) := by decide +kernel
theorem dL_law_1474 : decode cL_law 1474 = .ok (.iadd, 1) := by decide +kernel
theorem dL_law_1475 : decode cL_law 1475 = .ok (.iaload, 1) := by decide +kernel
theorem dL_law_1476 : decode cL_law 1476 = .ok (.invokevirtual 187, 3) := by decide +kernel
theorem dL_law_1479 : decode cL_law 1479 = .ok (.aload_n 2, 1) := by decide +kernel
theorem dL_law_1480 : decode cL_law 1480 = .ok (.aload_n 0, 1) := by decide +kernel
theorem dL_law_1481 : decode cL_law 1481 = .ok (.iload_n 3, 1) := by decide +kernel
theorem dL_law_1482 : decode cL_law 1482 = .ok (.iconst 1, 1) := by decide +kernel
theorem dL_law_1483 : decode cL_law 1483 = .ok (.iadd, 1) := by decide +kernel
theorem dL_law_1484 : decode cL_law 1484 = .ok (.iaload, 1) := by decide +kernel
theorem dL_law_1485 : decode cL_law 1485 = .ok (.invokevirtual 190, 3) := by decide +kernel
theorem dL_law_1488 : decode cL_law 1488 = .ok (.if_icmp .eq 5, 3) := by decide +kernel
theorem dL_law_1491 : decode cL_law 1491 = .ok (.iconst 0, 1) := by decide +kernel
theorem dL_law_1492 : decode cL_law 1492 = .ok (.ireturn, 1) := by decide +kernel
theorem dL_law_1493 : decode cL_law 1493 = .ok (.iinc 3 6, 3) := by decide +kernel
theorem dL_law_1496 : decode cL_law 1496 = .ok (.goto (-1478), 3) := by decide +kernel
theorem dL_law_1499 : decode cL_law 1499 = .ok (.iconst 1, 1) := by decide +kernel
theorem dL_law_1500 : decode cL_law 1500 = .ok (.ireturn, 1) := by decide +kernel
