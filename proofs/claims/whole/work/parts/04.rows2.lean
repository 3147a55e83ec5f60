theorem dX7_ring_96 : decode cX7_ring 96 = .ok (.if_icmp .ge 5, 3) := by decide +kernel
theorem dX7_ring_99 : decode cX7_ring 99 = .ok (.iload_n 3, 1) := by decide +kernel
theorem dX7_ring_100 : decode cX7_ring 100 = .ok (.istore_n 1, 1) := by decide +kernel
theorem dX7_ring_101 : decode cX7_ring 101 = .ok (.iinc 2 1, 3) := by decide +kernel
theorem dX7_ring_104 : decode cX7_ring 104 = .ok (.goto (-33), 3) := by decide +kernel
theorem dX7_ring_107 : decode cX7_ring 107 = .ok (.iload_n 1, 1) := by decide +kernel
theorem dX7_ring_108 : decode cX7_ring 108 = .ok (.bipush 10, 2) := by decide +kernel
theorem dX7_ring_110 : decode cX7_ring 110 = .ok (.if_icmp .le 8, 3) := by decide +kernel
theorem dX7_ring_113 : decode cX7_ring 113 = .ok (.bipush (-2), 2) := by decide +kernel
theorem dX7_ring_115 : decode cX7_ring 115 = .ok (.goto 4, 3) := by decide +kernel
theorem dX7_ring_118 : decode cX7_ring 118 = .ok (.iload_n 1, 1) := by decide +kernel
theorem dX7_ring_119 : decode cX7_ring 119 = .ok (.ireturn, 1) := by decide +kernel
theorem dX7_owes_0 : decode cX7_owes 0 = .ok (.aload_n 0, 1) := by decide +kernel
theorem dX7_owes_1 : decode cX7_owes 1 = .ok (.getfield 10, 3) := by decide +kernel
theorem dX7_owes_4 : decode cX7_owes 4 = .ok (.iload_n 1, 1) := by decide +kernel
theorem dX7_owes_5 : decode cX7_owes 5 = .ok (.invokevirtual 230, 3) := by decide +kernel
theorem dX7_owes_8 : decode cX7_owes 8 = .ok (.ifCond .ne 6, 3) := by decide +kernel
theorem dX7_owes_11 : decode cX7_owes 11 = .ok (.ldc 127, 2) := by decide +kernel
theorem dX7_owes_13 : decode cX7_owes 13 = .ok (.ireturn, 1) := by decide +kernel
theorem dX7_owes_14 : decode cX7_owes 14 = .ok (.iconst 0, 1) := by decide +kernel
theorem dX7_owes_15 : decode cX7_owes 15 = .ok (.istore_n 2, 1) := by decide +kernel
theorem dX7_owes_16 : decode cX7_owes 16 = .ok (.iconst 0, 1) := by decide +kernel
theorem dX7_owes_17 : decode cX7_owes 17 = .ok (.istore_n 3, 1) := by decide +kernel
theorem dX7_owes_18 : decode cX7_owes 18 = .ok (.iload_n 3, 1) := by decide +kernel
theorem dX7_owes_19 : decode cX7_owes 19 = .ok (.aload_n 0, 1) := by decide +kernel
theorem dX7_owes_20 : decode cX7_owes 20 = .ok (.getfield 10, 3) := by decide +kernel
theorem dX7_owes_23 : decode cX7_owes 23 = .ok (.getfield 100, 3) := by decide +kernel
theorem dX7_owes_26 : decode cX7_owes 26 = .ok (.if_icmp .ge 55, 3) := by decide +kernel
theorem dX7_owes_29 : decode cX7_owes 29 = .ok (.aload_n 0, 1) := by decide +kernel
theorem dX7_owes_30 : decode cX7_owes 30 = .ok (.getfield 26, 3) := by decide +kernel
theorem dX7_owes_33 : decode cX7_owes 33 = .ok (.iload_n 3, 1) := by decide +kernel
theorem dX7_owes_34 : decode cX7_owes 34 = .ok (.invokevirtual 197, 3) := by decide +kernel
theorem dX7_owes_37 : decode cX7_owes 37 = .ok (.ifCond .eq 6, 3) := by decide +kernel
theorem dX7_owes_40 : decode cX7_owes 40 = .ok (.goto 35, 3) := by decide +kernel
theorem dX7_owes_43 : decode cX7_owes 43 = .ok (.aload_n 0, 1) := by decide +kernel
theorem dX7_owes_44 : decode cX7_owes 44 = .ok (.getfield 10, 3) := by decide +kernel
theorem dX7_owes_47 : decode cX7_owes 47 = .ok (.getfield 206, 3) := by decide +kernel
theorem dX7_owes_50 : decode cX7_owes 50 = .ok (.iload_n 3, 1) := by decide +kernel
theorem dX7_owes_51 : decode cX7_owes 51 = .ok (.iaload, 1) := by decide +kernel
theorem dX7_owes_52 : decode cX7_owes 52 = .ok (.iload_n 1, 1) := by decide +kernel
theorem dX7_owes_53 : decode cX7_owes 53 = .ok (.if_icmp .ne 6, 3) := by decide +kernel
theorem dX7_owes_56 : decode cX7_owes 56 = .ok (.iinc 2 1, 3) := by decide +kernel
theorem dX7_owes_59 : decode cX7_owes 59 = .ok (.aload_n 0, 1) := by decide +kernel
theorem dX7_owes_60 : decode cX7_owes 60 = .ok (.getfield 10, 3) := by decide +kernel
theorem dX7_owes_63 : decode cX7_owes 63 = .ok (.getfield 203, 3) := by decide +kernel
theorem dX7_owes_66 : decode cX7_owes 66 = .ok (.iload_n 3, 1) := by decide +kernel
theorem dX7_owes_67 : decode cX7_owes 67 = .ok (.iaload, 1) := by decide +kernel
theorem dX7_owes_68 : decode cX7_owes 68 = .ok (.iload_n 1, 1) := by decide +kernel
theorem dX7_owes_69 : decode cX7_owes 69 = .ok (.if_icmp .ne 6, 3) := by decide +kernel
theorem dX7_owes_72 : decode cX7_owes 72 = .ok (.iinc 2 (-1), 3) := by decide +kernel
theorem dX7_owes_75 : decode cX7_owes 75 = .ok (.iinc 3 1, 3) := by decide +kernel
theorem dX7_owes_78 : decode cX7_owes 78 = .ok (.goto (-60), 3) := by decide +kernel
theorem dX7_owes_81 : decode cX7_owes 81 = .ok (.iload_n 2, 1) := by decide +kernel
theorem dX7_owes_82 : decode cX7_owes 82 = .ok (.ireturn, 1) := by decide +kernel
theorem dX7_post_0 : decode cX7_post 0 = .ok (.iload_n 1, 1) := by decide +kernel
theorem dX7_post_1 : decode cX7_post 1 = .ok (.invokestatic 85, 3) := by decide +kernel
theorem dX7_post_4 : decode cX7_post 4 = .ok (.ifCond .eq 14, 3) := by decide +kernel
theorem dX7_post_7 : decode cX7_post 7 = .ok (.iload_n 2, 1) := by decide +kernel
theorem dX7_post_8 : decode cX7_post 8 = .ok (.ifCond .lt 10, 3) := by decide +kernel
theorem dX7_post_11 : decode cX7_post 11 = .ok (.iload_n 2, 1) := by decide +kernel
theorem dX7_post_12 : decode cX7_post 12 = .ok (.sipush 999, 3) := by decide +kernel
theorem dX7_post_15 : decode cX7_post 15 = .ok (.if_icmp .le 5, 3) := by decide +kernel
theorem dX7_post_18 : decode cX7_post 18 = .ok (.iconst (-1), 1) := by decide +kernel
theorem dX7_post_19 : decode cX7_post 19 = .ok (.ireturn, 1) := by decide +kernel
theorem dX7_post_20 : decode cX7_post 20 = .ok (.iconst 0, 1) := by decide +kernel
theorem dX7_post_21 : decode cX7_post 21 = .ok (.istore_n 3, 1) := by decide +kernel
theorem dX7_post_22 : decode cX7_post 22 = .ok (.iload_n 3, 1) := by decide +kernel
theorem dX7_post_23 : decode cX7_post 23 = .ok (.bipush 12, 2) := by decide +kernel
theorem dX7_post_25 : decode cX7_post 25 = .ok (.if_icmp .ge 29, 3) := by decide +kernel
theorem dX7_post_28 : decode cX7_post 28 = .ok (.aload_n 0, 1) := by decide +kernel
theorem dX7_post_29 : decode cX7_post 29 = .ok (.getfield 26, 3) := by decide +kernel
theorem dX7_post_32 : decode cX7_post 32 = .ok (.getfield 169, 3) := by decide +kernel
theorem dX7_post_35 : decode cX7_post 35 = .ok (.iload_n 1, 1) := by decide +kernel
theorem dX7_post_36 : decode cX7_post 36 = .ok (.iload_n 3, 1) := by decide +kernel
theorem dX7_post_37 : decode cX7_post 37 = .ok (.iadd, 1) := by decide +kernel
theorem dX7_post_38 : decode cX7_post 38 = .ok (.bipush 12, 2) := by decide +kernel
theorem dX7_post_40 : decode cX7_post 40 = .ok (.irem, 1) := by decide +kernel
theorem dX7_post_41 : decode cX7_post 41 = .ok (.iaload, 1) := by decide +kernel
theorem dX7_post_42 : decode cX7_post 42 = .ok (.iload_n 2, 1) := by decide +kernel
theorem dX7_post_43 : decode cX7_post 43 = .ok (.if_icmp .ne 5, 3) := by decide +kernel
theorem dX7_post_46 : decode cX7_post 46 = .ok (.iload_n 3, 1) := by decide +kernel
theorem dX7_post_47 : decode cX7_post 47 = .ok (.ireturn, 1) := by decide +kernel
theorem dX7_post_48 : decode cX7_post 48 = .ok (.iinc 3 1, 3) := by decide +kernel
theorem dX7_post_51 : decode cX7_post 51 = .ok (.goto (-29), 3) := by decide +kernel
theorem dX7_post_54 : decode cX7_post 54 = .ok (.bipush (-2), 2) := by decide +kernel
theorem dX7_post_56 : decode cX7_post 56 = .ok (.ireturn, 1) := by decide +kernel
theorem dX7_nearest_0 : decode cX7_nearest 0 = .ok (.iload_n 1, 1) := by decide +kernel
theorem dX7_nearest_1 : decode cX7_nearest 1 = .ok (.ifCond .lt 10, 3) := by decide +kernel
theorem dX7_nearest_4 : decode cX7_nearest 4 = .ok (.iload_n 1, 1) := by decide +kernel
theorem dX7_nearest_5 : decode cX7_nearest 5 = .ok (.sipush 999, 3) := by decide +kernel
theorem dX7_nearest_8 : decode cX7_nearest 8 = .ok (.if_icmp .le 5, 3) := by decide +kernel
theorem dX7_nearest_11 : decode cX7_nearest 11 = .ok (.iconst (-1), 1) := by decide +kernel
theorem dX7_nearest_12 : decode cX7_nearest 12 = .ok (.ireturn, 1) := by decide +kernel
theorem dX7_nearest_13 : decode cX7_nearest 13 = .ok (.aload_n 0, 1) := by decide +kernel
theorem dX7_nearest_14 : decode cX7_nearest 14 = .ok (.iload_n 1, 1) := by decide +kernel
theorem dX7_nearest_15 : decode cX7_nearest 15 = .ok (.iconst 0, 1) := by decide +kernel
theorem dX7_nearest_16 : decode cX7_nearest 16 = .ok (.invokevirtual 233, 3) := by decide +kernel
theorem dX7_nearest_19 : decode cX7_nearest 19 = .ok (.ireturn, 1) := by decide +kernel
theorem dX7_chosen_0 : decode cX7_chosen 0 = .ok (.aload_n 0, 1) := by decide +kernel
theorem dX7_chosen_1 : decode cX7_chosen 1 = .ok (.getfield 10, 3) := by decide +kernel
theorem dX7_chosen_4 : decode cX7_chosen 4 = .ok (.iload_n 1, 1) := by decide +kernel
theorem dX7_chosen_5 : decode cX7_chosen 5 = .ok (.invokevirtual 230, 3) := by decide +kernel
theorem dX7_chosen_8 : decode cX7_chosen 8 = .ok (.ifCond .ne 5, 3) := by decide +kernel
theorem dX7_chosen_11 : decode cX7_chosen 11 = .ok (.iconst (-1), 1) := by decide +kernel
theorem dX7_chosen_12 : decode cX7_chosen 12 = .ok (.ireturn, 1) := by decide +kernel
theorem dX7_chosen_13 : decode cX7_chosen 13 = .ok (.iconst 0, 1) := by decide +kernel
theorem dX7_chosen_14 : decode cX7_chosen 14 = .ok (.istore_n 2, 1) := by decide +kernel
theorem dX7_chosen_15 : decode cX7_chosen 15 = .ok (.iconst 0, 1) := by decide +kernel
theorem dX7_chosen_16 : decode cX7_chosen 16 = .ok (.istore_n 3, 1) := by decide +kernel
theorem dX7_chosen_17 : decode cX7_chosen 17 = .ok (.iconst 0, 1) := by decide +kernel
theorem dX7_chosen_18 : decode cX7_chosen 18 = .ok (.istore 4, 2) := by decide +kernel
theorem dX7_chosen_20 : decode cX7_chosen 20 = .ok (.iload 4, 2) := by decide +kernel
theorem dX7_chosen_22 : decode cX7_chosen 22 = .ok (.iload_n 1, 1) := by decide +kernel
theorem dX7_chosen_23 : decode cX7_chosen 23 = .ok (.if_icmp .gt 34, 3) := by decide +kernel
theorem dX7_chosen_26 : decode cX7_chosen 26 = .ok (.aload_n 0, 1) := by decide +kernel
theorem dX7_chosen_27 : decode cX7_chosen 27 = .ok (.bipush 9, 2) := by decide +kernel
theorem dX7_chosen_29 : decode cX7_chosen 29 = .ok (.aload_n 0, 1) := by decide +kernel
theorem dX7_chosen_30 : decode cX7_chosen 30 = .ok (.getfield 10, 3) := by decide +kernel
theorem dX7_chosen_33 : decode cX7_chosen 33 = .ok (.getfield 236, 3) := by decide +kernel
theorem dX7_chosen_36 : decode cX7_chosen 36 = .ok (.iload 4, 2) := by decide +kernel
theorem dX7_chosen_38 : decode cX7_chosen 38 = .ok (.iaload, 1) := by decide +kernel
theorem dX7_chosen_39 : decode cX7_chosen 39 = .ok (.imul, 1) := by decide +kernel
theorem dX7_chosen_40 : decode cX7_chosen 40 = .ok (.iload_n 2, 1) := by decide +kernel
theorem dX7_chosen_41 : decode cX7_chosen 41 = .ok (.invokevirtual 233, 3) := by decide +kernel
theorem dX7_chosen_44 : decode cX7_chosen 44 = .ok (.istore_n 3, 1) := by decide +kernel
theorem dX7_chosen_45 : decode cX7_chosen 45 = .ok (.iload_n 2, 1) := by decide +kernel
theorem dX7_chosen_46 : decode cX7_chosen 46 = .ok (.iconst 1, 1) := by decide +kernel
theorem dX7_chosen_47 : decode cX7_chosen 47 = .ok (.iload_n 3, 1) := by decide +kernel
theorem dX7_chosen_48 : decode cX7_chosen 48 = .ok (.ishl, 1) := by decide +kernel
theorem dX7_chosen_49 : decode cX7_chosen 49 = .ok (.ior, 1) := by decide +kernel
theorem dX7_chosen_50 : decode cX7_chosen 50 = .ok (.istore_n 2, 1) := by decide +kernel
theorem dX7_chosen_51 : decode cX7_chosen 51 = .ok (.iinc 4 1, 3) := by decide +kernel
theorem dX7_chosen_54 : decode cX7_chosen 54 = .ok (.goto (-34), 3) := by decide +kernel
theorem dX7_chosen_57 : decode cX7_chosen 57 = .ok (.iload_n 3, 1) := by decide +kernel
theorem dX7_chosen_58 : decode cX7_chosen 58 = .ok (.ireturn, 1) := by decide +kernel
theorem dX7_judge_0 : decode cX7_judge 0 = .ok (.aload_n 0, 1) := by decide +kernel
theorem dX7_judge_1 : decode cX7_judge 1 = .ok (.iload_n 1, 1) := by decide +kernel
theorem dX7_judge_2 : decode cX7_judge 2 = .ok (.invokevirtual 239, 3) := by decide +kernel
theorem dX7_judge_5 : decode cX7_judge 5 = .ok (.ifCond .eq 10, 3) := by decide +kernel
theorem dX7_judge_8 : decode cX7_judge 8 = .ok (.iload_n 2, 1) := by decide +kernel
theorem dX7_judge_9 : decode cX7_judge 9 = .ok (.invokestatic 85, 3) := by decide +kernel
theorem dX7_judge_12 : decode cX7_judge 12 = .ok (.ifCond .ne 5, 3) := by decide +kernel
theorem dX7_judge_15 : decode cX7_judge 15 = .ok (.iconst (-1), 1) := by decide +kernel
theorem dX7_judge_16 : decode cX7_judge 16 = .ok (.ireturn, 1) := by decide +kernel
theorem dX7_judge_17 : decode cX7_judge 17 = .ok (.aload_n 0, 1) := by decide +kernel
theorem dX7_judge_18 : decode cX7_judge 18 = .ok (.iload_n 1, 1) := by decide +kernel
theorem dX7_judge_19 : decode cX7_judge 19 = .ok (.invokevirtual 242, 3) := by decide +kernel
theorem dX7_judge_22 : decode cX7_judge 22 = .ok (.istore_n 3, 1) := by decide +kernel
theorem dX7_judge_23 : decode cX7_judge 23 = .ok (.iload_n 3, 1) := by decide +kernel
theorem dX7_judge_24 : decode cX7_judge 24 = .ok (.ifCond .eq 5, 3) := by decide +kernel
theorem dX7_judge_27 : decode cX7_judge 27 = .ok (.iload_n 3, 1) := by decide +kernel
theorem dX7_judge_28 : decode cX7_judge 28 = .ok (.ireturn, 1) := by decide +kernel
theorem dX7_judge_29 : decode cX7_judge 29 = .ok (.aload_n 0, 1) := by decide +kernel
theorem dX7_judge_30 : decode cX7_judge 30 = .ok (.iload_n 1, 1) := by decide +kernel
theorem dX7_judge_31 : decode cX7_judge 31 = .ok (.bipush 10, 2) := by decide +kernel
theorem dX7_judge_33 : decode cX7_judge 33 = .ok (.idiv, 1) := by decide +kernel
theorem dX7_judge_34 : decode cX7_judge 34 = .ok (.iload_n 1, 1) := by decide +kernel
theorem dX7_judge_35 : decode cX7_judge 35 = .ok (.bipush 10, 2) := by decide +kernel
theorem dX7_judge_37 : decode cX7_judge 37 = .ok (.irem, 1) := by decide +kernel
theorem dX7_judge_38 : decode cX7_judge 38 = .ok (.iload_n 2, 1) := by decide +kernel
theorem dX7_judge_39 : decode cX7_judge 39 = .ok (.invokevirtual 245, 3) := by decide +kernel
theorem dX7_judge_42 : decode cX7_judge 42 = .ok (.ireturn, 1) := by decide +kernel
theorem dX7_fits_0 : decode cX7_fits 0 = .ok (.aload_n 0, 1) := by decide +kernel
theorem dX7_fits_1 : decode cX7_fits 1 = .ok (.iload_n 1, 1) := by decide +kernel
theorem dX7_fits_2 : decode cX7_fits 2 = .ok (.invokevirtual 239, 3) := by decide +kernel
theorem dX7_fits_5 : decode cX7_fits 5 = .ok (.ifCond .eq 21, 3) := by decide +kernel
theorem dX7_fits_8 : decode cX7_fits 8 = .ok (.iload_n 2, 1) := by decide +kernel
theorem dX7_fits_9 : decode cX7_fits 9 = .ok (.invokestatic 85, 3) := by decide +kernel
theorem dX7_fits_12 : decode cX7_fits 12 = .ok (.ifCond .eq 14, 3) := by decide +kernel
theorem dX7_fits_15 : decode cX7_fits 15 = .ok (.iload 4, 2) := by decide +kernel
theorem dX7_fits_17 : decode cX7_fits 17 = .ok (.ifCond .lt 9, 3) := by decide +kernel
theorem dX7_fits_20 : decode cX7_fits 20 = .ok (.iload 4, 2) := by decide +kernel
theorem dX7_fits_22 : decode cX7_fits 22 = .ok (.iconst 3, 1) := by decide +kernel
theorem dX7_fits_23 : decode cX7_fits 23 = .ok (.if_icmp .le 5, 3) := by decide +kernel
theorem dX7_fits_26 : decode cX7_fits 26 = .ok (.iconst (-1), 1) := by decide +kernel
theorem dX7_fits_27 : decode cX7_fits 27 = .ok (.ireturn, 1) := by decide +kernel
theorem dX7_fits_28 : decode cX7_fits 28 = .ok (.iload 4, 2) := by decide +kernel
theorem dX7_fits_30 : decode cX7_fits 30 = .ok (.iconst 2, 1) := by decide +kernel
theorem dX7_fits_31 : decode cX7_fits 31 = .ok (.if_icmp .ge 7, 3) := by decide +kernel
theorem dX7_fits_34 : decode cX7_fits 34 = .ok (.iconst 1, 1) := by decide +kernel
theorem dX7_fits_35 : decode cX7_fits 35 = .ok (.goto 4, 3) := by decide +kernel
theorem dX7_fits_38 : decode cX7_fits 38 = .ok (.iconst 0, 1) := by decide +kernel
theorem dX7_fits_39 : decode cX7_fits 39 = .ok (.istore 5, 2) := by decide +kernel
theorem dX7_fits_41 : decode cX7_fits 41 = .ok (.iload 5, 2) := by decide +kernel
theorem dX7_fits_43 : decode cX7_fits 43 = .ok (.ifCond .eq 17, 3) := by decide +kernel
theorem dX7_fits_46 : decode cX7_fits 46 = .ok (.aload_n 0, 1) := by decide +kernel
theorem dX7_fits_47 : decode cX7_fits 47 = .ok (.getfield 10, 3) := by decide +kernel
theorem dX7_fits_50 : decode cX7_fits 50 = .ok (.iload_n 3, 1) := by decide +kernel
theorem dX7_fits_51 : decode cX7_fits 51 = .ok (.invokevirtual 230, 3) := by decide +kernel
theorem dX7_fits_54 : decode cX7_fits 54 = .ok (.ifCond .ne 19, 3) := by decide +kernel
theorem dX7_fits_57 : decode cX7_fits 57 = .ok (.goto 14, 3) := by decide +kernel
theorem dX7_fits_60 : decode cX7_fits 60 = .ok (.aload_n 0, 1) := by decide +kernel
theorem dX7_fits_61 : decode cX7_fits 61 = .ok (.getfield 10, 3) := by decide +kernel
theorem dX7_fits_64 : decode cX7_fits 64 = .ok (.iload_n 3, 1) := by decide +kernel
theorem dX7_fits_65 : decode cX7_fits 65 = .ok (.invokevirtual 153, 3) := by decide +kernel
theorem dX7_fits_68 : decode cX7_fits 68 = .ok (.ifCond .ne 5, 3) := by decide +kernel
theorem dX7_fits_71 : decode cX7_fits 71 = .ok (.iconst (-1), 1) := by decide +kernel
theorem dX7_fits_72 : decode cX7_fits 72 = .ok (.ireturn, 1) := by decide +kernel
theorem dX7_fits_73 : decode cX7_fits 73 = .ok (.aload_n 0, 1) := by decide +kernel
theorem dX7_fits_74 : decode cX7_fits 74 = .ok (.iload_n 1, 1) := by decide +kernel
theorem dX7_fits_75 : decode cX7_fits 75 = .ok (.invokevirtual 242, 3) := by decide +kernel
theorem dX7_fits_78 : decode cX7_fits 78 = .ok (.istore 6, 2) := by decide +kernel
theorem dX7_fits_80 : decode cX7_fits 80 = .ok (.iload 6, 2) := by decide +kernel
theorem dX7_fits_82 : decode cX7_fits 82 = .ok (.ifCond .eq 6, 3) := by decide +kernel
theorem dX7_fits_85 : decode cX7_fits 85 = .ok (.iload 6, 2) := by decide +kernel
theorem dX7_fits_87 : decode cX7_fits 87 = .ok (.ireturn, 1) := by decide +kernel
theorem dX7_fits_88 : decode cX7_fits 88 = .ok (.iload 5, 2) := by decide +kernel
theorem dX7_fits_90 : decode cX7_fits 90 = .ok (.ifCond .eq 13, 3) := by decide +kernel
theorem dX7_fits_93 : decode cX7_fits 93 = .ok (.aload_n 0, 1) := by decide +kernel
theorem dX7_fits_94 : decode cX7_fits 94 = .ok (.getfield 10, 3) := by decide +kernel
theorem dX7_fits_97 : decode cX7_fits 97 = .ok (.getfield 236, 3) := by decide +kernel
theorem dX7_fits_100 : decode cX7_fits 100 = .ok (.goto 10, 3) := by decide +kernel
theorem dX7_fits_103 : decode cX7_fits 103 = .ok (.aload_n 0, 1) := by decide +kernel
theorem dX7_fits_104 : decode cX7_fits 104 = .ok (.getfield 10, 3) := by decide +kernel
theorem dX7_fits_107 : decode cX7_fits 107 = .ok (.getfield 248, 3) := by decide +kernel
theorem dX7_fits_110 : decode cX7_fits 110 = .ok (.astore 7, 2) := by decide +kernel
theorem dX7_fits_112 : decode cX7_fits 112 = .ok (.aload 7, 2) := by decide +kernel
theorem dX7_fits_114 : decode cX7_fits 114 = .ok (.iload_n 3, 1) := by decide +kernel
theorem dX7_fits_115 : decode cX7_fits 115 = .ok (.iaload, 1) := by decide +kernel
theorem dX7_fits_116 : decode cX7_fits 116 = .ok (.istore 8, 2) := by decide +kernel
theorem dX7_fits_118 : decode cX7_fits 118 = .ok (.iconst 0, 1) := by decide +kernel
theorem dX7_fits_119 : decode cX7_fits 119 = .ok (.istore 9, 2) := by decide +kernel
theorem dX7_fits_121 : decode cX7_fits 121 = .ok (.bipush (-2), 2) := by decide +kernel
theorem dX7_fits_123 : decode cX7_fits 123 = .ok (.istore 10, 2) := by decide +kernel
theorem dX7_fits_125 : decode cX7_fits 125 = .ok (.iload 5, 2) := by decide +kernel
theorem dX7_fits_127 : decode cX7_fits 127 = .ok (.ifCond .eq 8, 3) := by decide +kernel
theorem dX7_fits_130 : decode cX7_fits 130 = .ok (.bipush 12, 2) := by decide +kernel
theorem dX7_fits_132 : decode cX7_fits 132 = .ok (.goto 5, 3) := by decide +kernel
theorem dX7_fits_135 : decode cX7_fits 135 = .ok (.bipush 9, 2) := by decide +kernel
theorem dX7_fits_137 : decode cX7_fits 137 = .ok (.istore 11, 2) := by decide +kernel
theorem dX7_fits_139 : decode cX7_fits 139 = .ok (.iload 5, 2) := by decide +kernel
theorem dX7_fits_141 : decode cX7_fits 141 = .ok (.ifCond .eq 7, 3) := by decide +kernel
theorem dX7_fits_144 : decode cX7_fits 144 = .ok (.iconst 0, 1) := by decide +kernel
theorem dX7_fits_145 : decode cX7_fits 145 = .ok (.goto 4, 3) := by decide +kernel
theorem dX7_fits_148 : decode cX7_fits 148 = .ok (.iconst 1, 1) := by decide +kernel
theorem dX7_fits_149 : decode cX7_fits 149 = .ok (.istore 12, 2) := by decide +kernel
theorem dX7_fits_151 : decode cX7_fits 151 = .ok (.iload 12, 2) := by decide +kernel
theorem dX7_fits_153 : decode cX7_fits 153 = .ok (.iload 11, 2) := by decide +kernel
theorem dX7_fits_155 : decode cX7_fits 155 = .ok (.if_icmp .gt 48, 3) := by decide +kernel
theorem dX7_fits_158 : decode cX7_fits 158 = .ok (.aload 7, 2) := by decide +kernel
theorem dX7_fits_160 : decode cX7_fits 160 = .ok (.iload_n 3, 1) := by decide +kernel
theorem dX7_fits_161 : decode cX7_fits 161 = .ok (.iload 12, 2) := by decide +kernel
theorem dX7_fits_163 : decode cX7_fits 163 = .ok (.iastore, 1) := by decide +kernel
theorem dX7_fits_164 : decode cX7_fits 164 = .ok (.aload_n 0, 1) := by decide +kernel
theorem dX7_fits_165 : decode cX7_fits 165 = .ok (.iload_n 1, 1) := by decide +kernel
theorem dX7_fits_166 : decode cX7_fits 166 = .ok (.bipush 10, 2) := by decide +kernel
theorem dX7_fits_168 : decode cX7_fits 168 = .ok (.idiv, 1) := by decide +kernel
theorem dX7_fits_169 : decode cX7_fits 169 = .ok (.iload_n 1, 1) := by decide +kernel
theorem dX7_fits_170 : decode cX7_fits 170 = .ok (.bipush 10, 2) := by decide +kernel
theorem dX7_fits_172 : decode cX7_fits 172 = .ok (.irem, 1) := by decide +kernel
theorem dX7_fits_173 : decode cX7_fits 173 = .ok (.iload_n 2, 1) := by decide +kernel
theorem dX7_fits_174 : decode cX7_fits 174 = .ok (.invokevirtual 245, 3) := by decide +kernel
theorem dX7_fits_177 : decode cX7_fits 177 = .ok (.bipush (-2), 2) := by decide +kernel
theorem dX7_fits_179 : decode cX7_fits 179 = .ok (.if_icmp .eq 6, 3) := by decide +kernel
theorem dX7_fits_182 : decode cX7_fits 182 = .ok (.goto 15, 3) := by decide +kernel
theorem dX7_fits_185 : decode cX7_fits 185 = .ok (.iload 9, 2) := by decide +kernel
theorem dX7_fits_187 : decode cX7_fits 187 = .ok (.ifCond .ne 7, 3) := by decide +kernel
theorem dX7_fits_190 : decode cX7_fits 190 = .ok (.iload 12, 2) := by decide +kernel
theorem dX7_fits_192 : decode cX7_fits 192 = .ok (.istore 10, 2) := by decide +kernel
theorem dX7_fits_194 : decode cX7_fits 194 = .ok (.iinc 9 1, 3) := by decide +kernel
theorem dX7_fits_197 : decode cX7_fits 197 = .ok (.iinc 12 1, 3) := by decide +kernel
theorem dX7_fits_200 : decode cX7_fits 200 = .ok (.goto (-49), 3) := by decide +kernel
theorem dX7_fits_203 : decode cX7_fits 203 = .ok (.aload 7, 2) := by decide +kernel
theorem dX7_fits_205 : decode cX7_fits 205 = .ok (.iload_n 3, 1) := by decide +kernel
theorem dX7_fits_206 : decode cX7_fits 206 = .ok (.iload 8, 2) := by decide +kernel
theorem dX7_fits_208 : decode cX7_fits 208 = .ok (.iastore, 1) := by decide +kernel
theorem dX7_fits_209 : decode cX7_fits 209 = .ok (.iload 4, 2) := by decide +kernel
theorem dX7_fits_211 : decode cX7_fits 211 = .ok (.iconst 2, 1) := by decide +kernel
theorem dX7_fits_212 : decode cX7_fits 212 = .ok (.irem, 1) := by decide +kernel
theorem dX7_fits_213 : decode cX7_fits 213 = .ok (.ifCond .ne 8, 3) := by decide +kernel
theorem dX7_fits_216 : decode cX7_fits 216 = .ok (.iload 9, 2) := by decide +kernel
theorem dX7_fits_218 : decode cX7_fits 218 = .ok (.goto 5, 3) := by decide +kernel
theorem dX7_fits_221 : decode cX7_fits 221 = .ok (.iload 10, 2) := by decide +kernel
theorem dX7_fits_223 : decode cX7_fits 223 = .ok (.ireturn, 1) := by decide +kernel
theorem dX7_byTurns_0 : decode cX7_byTurns 0 = .ok (.iload_n 1, 1) := by decide +kernel
theorem dX7_byTurns_1 : decode cX7_byTurns 1 = .ok (.ifCond .lt 22, 3) := by decide +kernel
theorem dX7_byTurns_4 : decode cX7_byTurns 4 = .ok (.iload_n 2, 1) := by decide +kernel
theorem dX7_byTurns_5 : decode cX7_byTurns 5 = .ok (.iconst 1, 1) := by decide +kernel
theorem dX7_byTurns_6 : decode cX7_byTurns 6 = .ok (.if_icmp .lt 17, 3) := by decide +kernel
theorem dX7_byTurns_9 : decode cX7_byTurns 9 = .ok (.iload_n 2, 1) := by decide +kernel
theorem dX7_byTurns_10 : decode cX7_byTurns 10 = .ok (.iconst 4, 1) := by decide +kernel
theorem dX7_byTurns_11 : decode cX7_byTurns 11 = .ok (.if_icmp .gt 12, 3) := by decide +kernel
theorem dX7_byTurns_14 : decode cX7_byTurns 14 = .ok (.iload_n 3, 1) := by decide +kernel
theorem dX7_byTurns_15 : decode cX7_byTurns 15 = .ok (.ifCond .lt 8, 3) := by decide +kernel
theorem dX7_byTurns_18 : decode cX7_byTurns 18 = .ok (.iload_n 3, 1) := by decide +kernel
theorem dX7_byTurns_19 : decode cX7_byTurns 19 = .ok (.iconst 1, 1) := by decide +kernel
theorem dX7_byTurns_20 : decode cX7_byTurns 20 = .ok (.if_icmp .le 6, 3) := by decide +kernel
theorem dX7_byTurns_23 : decode cX7_byTurns 23 = .ok (.ldc 127, 2) := by decide +kernel
theorem dX7_byTurns_25 : decode cX7_byTurns 25 = .ok (.ireturn, 1) := by decide +kernel
theorem dX7_byTurns_26 : decode cX7_byTurns 26 = .ok (.iload_n 1, 1) := by decide +kernel
theorem dX7_byTurns_27 : decode cX7_byTurns 27 = .ok (.bipush 10, 2) := by decide +kernel
theorem dX7_byTurns_29 : decode cX7_byTurns 29 = .ok (.idiv, 1) := by decide +kernel
theorem dX7_byTurns_30 : decode cX7_byTurns 30 = .ok (.istore 4, 2) := by decide +kernel
theorem dX7_byTurns_32 : decode cX7_byTurns 32 = .ok (.iload_n 1, 1) := by decide +kernel
theorem dX7_byTurns_33 : decode cX7_byTurns 33 = .ok (.bipush 10, 2) := by decide +kernel
theorem dX7_byTurns_35 : decode cX7_byTurns 35 = .ok (.irem, 1) := by decide +kernel
theorem dX7_byTurns_36 : decode cX7_byTurns 36 = .ok (.istore 5, 2) := by decide +kernel
theorem dX7_byTurns_38 : decode cX7_byTurns 38 = .ok (.aload_n 0, 1) := by decide +kernel
theorem dX7_byTurns_39 : decode cX7_byTurns 39 = .ok (.getfield 10, 3) := by decide +kernel
theorem dX7_byTurns_42 : decode cX7_byTurns 42 = .ok (.iload 4, 2) := by decide +kernel
theorem dX7_byTurns_44 : decode cX7_byTurns 44 = .ok (.invokevirtual 230, 3) := by decide +kernel
theorem dX7_byTurns_47 : decode cX7_byTurns 47 = .ok (.ifCond .eq 22, 3) := by decide +kernel
theorem dX7_byTurns_50 : decode cX7_byTurns 50 = .ok (.aload_n 0, 1) := by decide +kernel
theorem dX7_byTurns_51 : decode cX7_byTurns 51 = .ok (.getfield 10, 3) := by decide +kernel
theorem dX7_byTurns_54 : decode cX7_byTurns 54 = .ok (.iload 5, 2) := by decide +kernel
theorem dX7_byTurns_56 : decode cX7_byTurns 56 = .ok (.invokevirtual 230, 3) := by decide +kernel
theorem dX7_byTurns_59 : decode cX7_byTurns 59 = .ok (.ifCond .eq 10, 3) := by decide +kernel
theorem dX7_byTurns_62 : decode cX7_byTurns 62 = .ok (.iload 4, 2) := by decide +kernel
theorem dX7_byTurns_64 : decode cX7_byTurns 64 = .ok (.iload 5, 2) := by decide +kernel
theorem dX7_byTurns_66 : decode cX7_byTurns 66 = .ok (.if_icmp .ne 6, 3) := by decide +kernel
theorem dX7_byTurns_69 : decode cX7_byTurns 69 = .ok (.ldc 127, 2) := by decide +kernel
theorem dX7_byTurns_71 : decode cX7_byTurns 71 = .ok (.ireturn, 1) := by decide +kernel
theorem dX7_byTurns_72 : decode cX7_byTurns 72 = .ok (.aload_n 0, 1) := by decide +kernel
theorem dX7_byTurns_73 : decode cX7_byTurns 73 = .ok (.getfield 10, 3) := by decide +kernel
theorem dX7_byTurns_76 : decode cX7_byTurns 76 = .ok (.getfield 200, 3) := by decide +kernel
theorem dX7_byTurns_79 : decode cX7_byTurns 79 = .ok (.iload 4, 2) := by decide +kernel
theorem dX7_byTurns_81 : decode cX7_byTurns 81 = .ok (.iaload, 1) := by decide +kernel
theorem dX7_byTurns_82 : decode cX7_byTurns 82 = .ok (.aload_n 0, 1) := by decide +kernel
theorem dX7_byTurns_83 : decode cX7_byTurns 83 = .ok (.getfield 10, 3) := by decide +kernel
theorem dX7_byTurns_86 : decode cX7_byTurns 86 = .ok (.getfield 200, 3) := by decide +kernel
theorem dX7_byTurns_89 : decode cX7_byTurns 89 = .ok (.iload 5, 2) := by decide +kernel
theorem dX7_byTurns_91 : decode cX7_byTurns 91 = .ok (.iaload, 1) := by decide +kernel
theorem dX7_byTurns_92 : decode cX7_byTurns 92 = .ok (.if_icmp .ne 14, 3) := by decide +kernel
theorem dX7_byTurns_95 : decode cX7_byTurns 95 = .ok (.iload_n 3, 1) := by decide +kernel
theorem dX7_byTurns_96 : decode cX7_byTurns 96 = .ok (.ifCond .ne 7, 3) := by decide +kernel
theorem dX7_byTurns_99 : decode cX7_byTurns 99 = .ok (.iconst 0, 1) := by decide +kernel
theorem dX7_byTurns_100 : decode cX7_byTurns 100 = .ok (.goto 5, 3) := by decide +kernel
theorem dX7_byTurns_103 : decode cX7_byTurns 103 = .ok (.bipush 12, 2) := by decide +kernel
theorem dX7_byTurns_105 : decode cX7_byTurns 105 = .ok (.ireturn, 1) := by decide +kernel
theorem dX7_byTurns_106 : decode cX7_byTurns 106 = .ok (.aload_n 0, 1) := by decide +kernel
theorem dX7_byTurns_107 : decode cX7_byTurns 107 = .ok (.getfield 30, 3) := by decide +kernel
theorem dX7_byTurns_110 : decode cX7_byTurns 110 = .ok (.aload_n 0, 1) := by decide +kernel
theorem dX7_byTurns_111 : decode cX7_byTurns 111 = .ok (.getfield 26, 3) := by decide +kernel
theorem dX7_byTurns_114 : decode cX7_byTurns 114 = .ok (.invokevirtual 187, 3) := by decide +kernel
theorem dX7_byTurns_117 : decode cX7_byTurns 117 = .ok (.aload_n 0, 1) := by decide +kernel
theorem dX7_byTurns_118 : decode cX7_byTurns 118 = .ok (.iload 4, 2) := by decide +kernel
theorem dX7_byTurns_120 : decode cX7_byTurns 120 = .ok (.iload_n 2, 1) := by decide +kernel
theorem dX7_byTurns_121 : decode cX7_byTurns 121 = .ok (.iconst 1, 1) := by decide +kernel
theorem dX7_byTurns_122 : decode cX7_byTurns 122 = .ok (.iadd, 1) := by decide +kernel
theorem dX7_byTurns_123 : decode cX7_byTurns 123 = .ok (.iconst 2, 1) := by decide +kernel
theorem dX7_byTurns_124 : decode cX7_byTurns 124 = .ok (.idiv, 1) := by decide +kernel
theorem dX7_byTurns_125 : decode cX7_byTurns 125 = .ok (.invokevirtual 251, 3) := by decide +kernel
theorem dX7_byTurns_128 : decode cX7_byTurns 128 = .ok (.iload_n 3, 1) := by decide +kernel
theorem dX7_byTurns_129 : decode cX7_byTurns 129 = .ok (.iconst 1, 1) := by decide +kernel
theorem dX7_byTurns_130 : decode cX7_byTurns 130 = .ok (.if_icmp .ne 10, 3) := by decide +kernel
theorem dX7_byTurns_133 : decode cX7_byTurns 133 = .ok (.aload_n 0, 1) := by decide +kernel
theorem dX7_byTurns_134 : decode cX7_byTurns 134 = .ok (.getfield 72, 3) := by decide +kernel
theorem dX7_byTurns_137 : decode cX7_byTurns 137 = .ok (.iconst 1, 1) := by decide +kernel
theorem dX7_byTurns_138 : decode cX7_byTurns 138 = .ok (.iaload, 1) := by decide +kernel
theorem dX7_byTurns_139 : decode cX7_byTurns 139 = .ok (.ireturn, 1) := by decide +kernel
theorem dX7_byTurns_140 : decode cX7_byTurns 140 = .ok (.aload_n 0, 1) := by decide +kernel
theorem dX7_byTurns_141 : decode cX7_byTurns 141 = .ok (.getfield 72, 3) := by decide +kernel
theorem dX7_byTurns_144 : decode cX7_byTurns 144 = .ok (.iconst 0, 1) := by decide +kernel
theorem dX7_byTurns_145 : decode cX7_byTurns 145 = .ok (.iaload, 1) := by decide +kernel
theorem dX7_byTurns_146 : decode cX7_byTurns 146 = .ok (.istore 6, 2) := by decide +kernel
theorem dX7_byTurns_148 : decode cX7_byTurns 148 = .ok (.aload_n 0, 1) := by decide +kernel
theorem dX7_byTurns_149 : decode cX7_byTurns 149 = .ok (.iload 5, 2) := by decide +kernel
theorem dX7_byTurns_151 : decode cX7_byTurns 151 = .ok (.iload_n 2, 1) := by decide +kernel
theorem dX7_byTurns_152 : decode cX7_byTurns 152 = .ok (.iconst 2, 1) := by decide +kernel
theorem dX7_byTurns_153 : decode cX7_byTurns 153 = .ok (.idiv, 1) := by decide +kernel
theorem dX7_byTurns_154 : decode cX7_byTurns 154 = .ok (.invokevirtual 251, 3) := by decide +kernel
theorem dX7_byTurns_157 : decode cX7_byTurns 157 = .ok (.iload 6, 2) := by decide +kernel
theorem dX7_byTurns_159 : decode cX7_byTurns 159 = .ok (.aload_n 0, 1) := by decide +kernel
theorem dX7_byTurns_160 : decode cX7_byTurns 160 = .ok (.getfield 72, 3) := by decide +kernel
theorem dX7_byTurns_163 : decode cX7_byTurns 163 = .ok (.iconst 0, 1) := by decide +kernel
theorem dX7_byTurns_164 : decode cX7_byTurns 164 = .ok (.iaload, 1) := by decide +kernel
theorem dX7_byTurns_165 : decode cX7_byTurns 165 = .ok (.isub, 1) := by decide +kernel
theorem dX7_byTurns_166 : decode cX7_byTurns 166 = .ok (.ireturn, 1) := by decide +kernel
theorem dX7_drawn_0 : decode cX7_drawn 0 = .ok (.iload_n 2, 1) := by decide +kernel
theorem dX7_drawn_1 : decode cX7_drawn 1 = .ok (.ifCond .lt 14, 3) := by decide +kernel
theorem dX7_drawn_4 : decode cX7_drawn 4 = .ok (.iload_n 3, 1) := by decide +kernel
theorem dX7_drawn_5 : decode cX7_drawn 5 = .ok (.iconst (-1), 1) := by decide +kernel
theorem dX7_drawn_6 : decode cX7_drawn 6 = .ok (.if_icmp .lt 9, 3) := by decide +kernel
theorem dX7_drawn_9 : decode cX7_drawn 9 = .ok (.iload_n 3, 1) := by decide +kernel
theorem dX7_drawn_10 : decode cX7_drawn 10 = .ok (.bipush 12, 2) := by decide +kernel
theorem dX7_drawn_12 : decode cX7_drawn 12 = .ok (.if_icmp .lt 5, 3) := by decide +kernel
theorem dX7_drawn_15 : decode cX7_drawn 15 = .ok (.iconst (-1), 1) := by decide +kernel
theorem dX7_drawn_16 : decode cX7_drawn 16 = .ok (.ireturn, 1) := by decide +kernel
theorem dX7_drawn_17 : decode cX7_drawn 17 = .ok (.iload_n 2, 1) := by decide +kernel
theorem dX7_drawn_18 : decode cX7_drawn 18 = .ok (.bipush 100, 2) := by decide +kernel
theorem dX7_drawn_20 : decode cX7_drawn 20 = .ok (.idiv, 1) := by decide +kernel
theorem dX7_drawn_21 : decode cX7_drawn 21 = .ok (.istore 4, 2) := by decide +kernel
theorem dX7_drawn_23 : decode cX7_drawn 23 = .ok (.iload_n 2, 1) := by decide +kernel
theorem dX7_drawn_24 : decode cX7_drawn 24 = .ok (.bipush 100, 2) := by decide +kernel
theorem dX7_drawn_26 : decode cX7_drawn 26 = .ok (.irem, 1) := by decide +kernel
theorem dX7_drawn_27 : decode cX7_drawn 27 = .ok (.istore 5, 2) := by decide +kernel
theorem dX7_drawn_29 : decode cX7_drawn 29 = .ok (.iload 4, 2) := by decide +kernel
theorem dX7_drawn_31 : decode cX7_drawn 31 = .ok (.iconst 1, 1) := by decide +kernel
theorem dX7_drawn_32 : decode cX7_drawn 32 = .ok (.if_icmp .lt 23, 3) := by decide +kernel
theorem dX7_drawn_35 : decode cX7_drawn 35 = .ok (.iload 4, 2) := by decide +kernel
theorem dX7_drawn_37 : decode cX7_drawn 37 = .ok (.bipush 30, 2) := by decide +kernel
theorem dX7_drawn_39 : decode cX7_drawn 39 = .ok (.if_icmp .gt 16, 3) := by decide +kernel
theorem dX7_drawn_42 : decode cX7_drawn 42 = .ok (.iload 5, 2) := by decide +kernel
theorem dX7_drawn_44 : decode cX7_drawn 44 = .ok (.iconst 1, 1) := by decide +kernel
theorem dX7_drawn_45 : decode cX7_drawn 45 = .ok (.if_icmp .lt 10, 3) := by decide +kernel
theorem dX7_drawn_48 : decode cX7_drawn 48 = .ok (.iload 5, 2) := by decide +kernel
theorem dX7_drawn_50 : decode cX7_drawn 50 = .ok (.bipush 40, 2) := by decide +kernel
theorem dX7_drawn_52 : decode cX7_drawn 52 = .ok (.if_icmp .le 5, 3) := by decide +kernel
theorem dX7_drawn_55 : decode cX7_drawn 55 = .ok (.iconst (-1), 1) := by decide +kernel
theorem dX7_drawn_56 : decode cX7_drawn 56 = .ok (.ireturn, 1) := by decide +kernel
theorem dX7_drawn_57 : decode cX7_drawn 57 = .ok (.iload_n 1, 1) := by decide +kernel
theorem dX7_drawn_58 : decode cX7_drawn 58 = .ok (.istore 6, 2) := by decide +kernel
theorem dX7_drawn_60 : decode cX7_drawn 60 = .ok (.iconst 0, 1) := by decide +kernel
theorem dX7_drawn_61 : decode cX7_drawn 61 = .ok (.istore 7, 2) := by decide +kernel
theorem dX7_drawn_63 : decode cX7_drawn 63 = .ok (.iconst 0, 1) := by decide +kernel
theorem dX7_drawn_64 : decode cX7_drawn 64 = .ok (.istore 8, 2) := by decide +kernel
theorem dX7_drawn_66 : decode cX7_drawn 66 = .ok (.iload 8, 2) := by decide +kernel
theorem dX7_drawn_68 : decode cX7_drawn 68 = .ok (.iload 4, 2) := by decide +kernel
theorem dX7_drawn_70 : decode cX7_drawn 70 = .ok (.if_icmp .ge 82, 3) := by decide +kernel
theorem dX7_drawn_73 : decode cX7_drawn 73 = .ok (.aload_n 0, 1) := by decide +kernel
theorem dX7_drawn_74 : decode cX7_drawn 74 = .ok (.getfield 30, 3) := by decide +kernel
theorem dX7_drawn_77 : decode cX7_drawn 77 = .ok (.aload_n 0, 1) := by decide +kernel
theorem dX7_drawn_78 : decode cX7_drawn 78 = .ok (.getfield 26, 3) := by decide +kernel
theorem dX7_drawn_81 : decode cX7_drawn 81 = .ok (.invokevirtual 187, 3) := by decide +kernel
theorem dX7_drawn_84 : decode cX7_drawn 84 = .ok (.iconst 0, 1) := by decide +kernel
theorem dX7_drawn_85 : decode cX7_drawn 85 = .ok (.istore 9, 2) := by decide +kernel
theorem dX7_drawn_87 : decode cX7_drawn 87 = .ok (.iload 9, 2) := by decide +kernel
theorem dX7_drawn_89 : decode cX7_drawn 89 = .ok (.iload 5, 2) := by decide +kernel
theorem dX7_drawn_91 : decode cX7_drawn 91 = .ok (.if_icmp .ge 26, 3) := by decide +kernel
theorem dX7_drawn_94 : decode cX7_drawn 94 = .ok (.iload 6, 2) := by decide +kernel
theorem dX7_drawn_96 : decode cX7_drawn 96 = .ok (.ldc 255, 2) := by decide +kernel
theorem dX7_drawn_98 : decode cX7_drawn 98 = .ok (.imul, 1) := by decide +kernel
theorem dX7_drawn_99 : decode cX7_drawn 99 = .ok (.sipush 12345, 3) := by decide +kernel
theorem dX7_drawn_102 : decode cX7_drawn 102 = .ok (.iadd, 1) := by decide +kernel
theorem dX7_drawn_103 : decode cX7_drawn 103 = .ok (.istore 6, 2) := by decide +kernel
theorem dX7_drawn_105 : decode cX7_drawn 105 = .ok (.aload_n 0, 1) := by decide +kernel
theorem dX7_drawn_106 : decode cX7_drawn 106 = .ok (.iload 6, 2) := by decide +kernel
theorem dX7_drawn_108 : decode cX7_drawn 108 = .ok (.invokevirtual 256, 3) := by decide +kernel
theorem dX7_drawn_111 : decode cX7_drawn 111 = .ok (.iinc 9 1, 3) := by decide +kernel
theorem dX7_drawn_114 : decode cX7_drawn 114 = .ok (.goto (-27), 3) := by decide +kernel
theorem dX7_drawn_117 : decode cX7_drawn 117 = .ok (.iload 7, 2) := by decide +kernel
theorem dX7_drawn_119 : decode cX7_drawn 119 = .ok (.iload_n 3, 1) := by decide +kernel
theorem dX7_drawn_120 : decode cX7_drawn 120 = .ok (.iconst (-1), 1) := by decide +kernel
theorem dX7_drawn_121 : decode cX7_drawn 121 = .ok (.if_icmp .ne 13, 3) := by decide +kernel
theorem dX7_drawn_124 : decode cX7_drawn 124 = .ok (.aload_n 0, 1) := by decide +kernel
theorem dX7_drawn_125 : decode cX7_drawn 125 = .ok (.getfield 30, 3) := by decide +kernel
theorem dX7_drawn_128 : decode cX7_drawn 128 = .ok (.invokevirtual 175, 3) := by decide +kernel
theorem dX7_drawn_131 : decode cX7_drawn 131 = .ok (.goto 12, 3) := by decide +kernel
theorem dX7_drawn_134 : decode cX7_drawn 134 = .ok (.aload_n 0, 1) := by decide +kernel
theorem dX7_drawn_135 : decode cX7_drawn 135 = .ok (.getfield 30, 3) := by decide +kernel
theorem dX7_drawn_138 : decode cX7_drawn 138 = .ok (.getfield 169, 3) := by decide +kernel
theorem dX7_drawn_141 : decode cX7_drawn 141 = .ok (.iload_n 3, 1) := by decide +kernel
theorem dX7_drawn_142 : decode cX7_drawn 142 = .ok (.iaload, 1) := by decide +kernel
theorem dX7_drawn_143 : decode cX7_drawn 143 = .ok (.iadd, 1) := by decide +kernel
theorem dX7_drawn_144 : decode cX7_drawn 144 = .ok (.istore 7, 2) := by decide +kernel
theorem dX7_drawn_146 : decode cX7_drawn 146 = .ok (.iinc 8 1, 3) := by decide +kernel
theorem dX7_drawn_149 : decode cX7_drawn 149 = .ok (.goto (-83), 3) := by decide +kernel
theorem dX7_drawn_152 : decode cX7_drawn 152 = .ok (.iload 7, 2) := by decide +kernel
theorem dX7_drawn_154 : decode cX7_drawn 154 = .ok (.ireturn, 1) := by decide +kernel
theorem dX7_call_0 : decode cX7_call 0 = .ok (.aload_n 0, 1) := by decide +kernel
theorem dX7_call_1 : decode cX7_call 1 = .ok (.getfield 10, 3) := by decide +kernel
theorem dX7_call_4 : decode cX7_call 4 = .ok (.iload_n 1, 1) := by decide +kernel
theorem dX7_call_5 : decode cX7_call 5 = .ok (.invokevirtual 153, 3) := by decide +kernel
theorem dX7_call_8 : decode cX7_call 8 = .ok (.ifCond .eq 10, 3) := by decide +kernel
theorem dX7_call_11 : decode cX7_call 11 = .ok (.iload_n 2, 1) := by decide +kernel
theorem dX7_call_12 : decode cX7_call 12 = .ok (.invokestatic 85, 3) := by decide +kernel
theorem dX7_call_15 : decode cX7_call 15 = .ok (.ifCond .ne 5, 3) := by decide +kernel
theorem dX7_call_18 : decode cX7_call 18 = .ok (.iconst (-1), 1) := by decide +kernel
theorem dX7_call_19 : decode cX7_call 19 = .ok (.ireturn, 1) := by decide +kernel
theorem dX7_call_20 : decode cX7_call 20 = .ok (.aload_n 0, 1) := by decide +kernel
theorem dX7_call_21 : decode cX7_call 21 = .ok (.aload_n 0, 1) := by decide +kernel
theorem dX7_call_22 : decode cX7_call 22 = .ok (.getfield 26, 3) := by decide +kernel
theorem dX7_call_25 : decode cX7_call 25 = .ok (.iload_n 1, 1) := by decide +kernel
theorem dX7_call_26 : decode cX7_call 26 = .ok (.iload_n 2, 1) := by decide +kernel
theorem dX7_call_27 : decode cX7_call 27 = .ok (.invokevirtual 191, 3) := by decide +kernel
theorem dX7_call_30 : decode cX7_call 30 = .ok (.istore_n 3, 1) := by decide +kernel
theorem dX7_call_31 : decode cX7_call 31 = .ok (.iload_n 3, 1) := by decide +kernel
theorem dX7_call_32 : decode cX7_call 32 = .ok (.ifCond .ne 19, 3) := by decide +kernel
theorem dX7_call_35 : decode cX7_call 35 = .ok (.aload_n 0, 1) := by decide +kernel
theorem dX7_call_36 : decode cX7_call 36 = .ok (.getfield 26, 3) := by decide +kernel
theorem dX7_call_39 : decode cX7_call 39 = .ok (.getfield 260, 3) := by decide +kernel
theorem dX7_call_42 : decode cX7_call 42 = .ok (.iconst 1, 1) := by decide +kernel
theorem dX7_call_43 : decode cX7_call 43 = .ok (.dup2, 1) := by decide +kernel
theorem dX7_call_44 : decode cX7_call 44 = .ok (.iaload, 1) := by decide +kernel
theorem dX7_call_45 : decode cX7_call 45 = .ok (.iconst 1, 1) := by decide +kernel
theorem dX7_call_46 : decode cX7_call 46 = .ok (.iadd, 1) := by decide +kernel
theorem dX7_call_47 : decode cX7_call 47 = .ok (.iastore, 1) := by decide +kernel
theorem dX7_call_48 : decode cX7_call 48 = .ok (.goto 29, 3) := by decide +kernel
theorem dX7_call_51 : decode cX7_call 51 = .ok (.aload_n 0, 1) := by decide +kernel
theorem dX7_call_52 : decode cX7_call 52 = .ok (.getfield 26, 3) := by decide +kernel
theorem dX7_call_55 : decode cX7_call 55 = .ok (.getfield 260, 3) := by decide +kernel
theorem dX7_call_58 : decode cX7_call 58 = .ok (.iconst 0, 1) := by decide +kernel
theorem dX7_call_59 : decode cX7_call 59 = .ok (.dup2, 1) := by decide +kernel
theorem dX7_call_60 : decode cX7_call 60 = .ok (.iaload, 1) := by decide +kernel
theorem dX7_call_61 : decode cX7_call 61 = .ok (.iconst 1, 1) := by decide +kernel
theorem dX7_call_62 : decode cX7_call 62 = .ok (.iadd, 1) := by decide +kernel
theorem dX7_call_63 : decode cX7_call 63 = .ok (.iastore, 1) := by decide +kernel
theorem dX7_call_64 : decode cX7_call 64 = .ok (.aload_n 0, 1) := by decide +kernel
theorem dX7_call_65 : decode cX7_call 65 = .ok (.getfield 26, 3) := by decide +kernel
theorem dX7_call_68 : decode cX7_call 68 = .ok (.getfield 260, 3) := by decide +kernel
theorem dX7_call_71 : decode cX7_call 71 = .ok (.iconst 2, 1) := by decide +kernel
theorem dX7_call_72 : decode cX7_call 72 = .ok (.dup2, 1) := by decide +kernel
theorem dX7_call_73 : decode cX7_call 73 = .ok (.iaload, 1) := by decide +kernel
theorem dX7_call_74 : decode cX7_call 74 = .ok (.iload_n 3, 1) := by decide +kernel
theorem dX7_call_75 : decode cX7_call 75 = .ok (.iadd, 1) := by decide +kernel
theorem dX7_call_76 : decode cX7_call 76 = .ok (.iastore, 1) := by decide +kernel
theorem dX7_call_77 : decode cX7_call 77 = .ok (.iload_n 3, 1) := by decide +kernel
theorem dX7_call_78 : decode cX7_call 78 = .ok (.ireturn, 1) := by decide +kernel
theorem dX7_again_0 : decode cX7_again 0 = .ok (.aload_n 0, 1) := by decide +kernel
theorem dX7_again_1 : decode cX7_again 1 = .ok (.getfield 10, 3) := by decide +kernel
theorem dX7_again_4 : decode cX7_again 4 = .ok (.iload_n 1, 1) := by decide +kernel
theorem dX7_again_5 : decode cX7_again 5 = .ok (.invokevirtual 153, 3) := by decide +kernel
theorem dX7_again_8 : decode cX7_again 8 = .ok (.ifCond .ne 5, 3) := by decide +kernel
theorem dX7_again_11 : decode cX7_again 11 = .ok (.iconst (-1), 1) := by decide +kernel
theorem dX7_again_12 : decode cX7_again 12 = .ok (.ireturn, 1) := by decide +kernel
theorem dX7_again_13 : decode cX7_again 13 = .ok (.aload_n 0, 1) := by decide +kernel
theorem dX7_again_14 : decode cX7_again 14 = .ok (.getfield 26, 3) := by decide +kernel
theorem dX7_again_17 : decode cX7_again 17 = .ok (.iload_n 1, 1) := by decide +kernel
theorem dX7_again_18 : decode cX7_again 18 = .ok (.invokevirtual 197, 3) := by decide +kernel
theorem dX7_again_21 : decode cX7_again 21 = .ok (.ifCond .ne 6, 3) := by decide +kernel
theorem dX7_again_24 : decode cX7_again 24 = .ok (.bipush (-5), 2) := by decide +kernel
theorem dX7_again_26 : decode cX7_again 26 = .ok (.ireturn, 1) := by decide +kernel
theorem dX7_again_27 : decode cX7_again 27 = .ok (.aload_n 0, 1) := by decide +kernel
theorem dX7_again_28 : decode cX7_again 28 = .ok (.getfield 26, 3) := by decide +kernel
theorem dX7_again_31 : decode cX7_again 31 = .ok (.getfield 263, 3) := by decide +kernel
theorem dX7_again_34 : decode cX7_again 34 = .ok (.iload_n 1, 1) := by decide +kernel
theorem dX7_again_35 : decode cX7_again 35 = .ok (.iaload, 1) := by decide +kernel
theorem dX7_again_36 : decode cX7_again 36 = .ok (.istore_n 2, 1) := by decide +kernel
theorem dX7_again_37 : decode cX7_again 37 = .ok (.aload_n 0, 1) := by decide +kernel
theorem dX7_again_38 : decode cX7_again 38 = .ok (.getfield 26, 3) := by decide +kernel
theorem dX7_again_41 : decode cX7_again 41 = .ok (.iload_n 1, 1) := by decide +kernel
theorem dX7_again_42 : decode cX7_again 42 = .ok (.invokevirtual 266, 3) := by decide +kernel
theorem dX7_again_45 : decode cX7_again 45 = .ok (.aload_n 0, 1) := by decide +kernel
theorem dX7_again_46 : decode cX7_again 46 = .ok (.getfield 26, 3) := by decide +kernel
theorem dX7_again_49 : decode cX7_again 49 = .ok (.getfield 260, 3) := by decide +kernel
theorem dX7_again_52 : decode cX7_again 52 = .ok (.iconst 3, 1) := by decide +kernel
theorem dX7_again_53 : decode cX7_again 53 = .ok (.dup2, 1) := by decide +kernel
theorem dX7_again_54 : decode cX7_again 54 = .ok (.iaload, 1) := by decide +kernel
theorem dX7_again_55 : decode cX7_again 55 = .ok (.iconst 1, 1) := by decide +kernel
theorem dX7_again_56 : decode cX7_again 56 = .ok (.iadd, 1) := by decide +kernel
theorem dX7_again_57 : decode cX7_again 57 = .ok (.iastore, 1) := by decide +kernel
theorem dX7_again_58 : decode cX7_again 58 = .ok (.iload_n 2, 1) := by decide +kernel
theorem dX7_again_59 : decode cX7_again 59 = .ok (.ireturn, 1) := by decide +kernel
theorem dX7_days_0 : decode cX7_days 0 = .ok (.iload_n 1, 1) := by decide +kernel
theorem dX7_days_1 : decode cX7_days 1 = .ok (.iconst 1, 1) := by decide +kernel
theorem dX7_days_2 : decode cX7_days 2 = .ok (.if_icmp .lt 9, 3) := by decide +kernel
theorem dX7_days_5 : decode cX7_days 5 = .ok (.iload_n 1, 1) := by decide +kernel
theorem dX7_days_6 : decode cX7_days 6 = .ok (.bipush 99, 2) := by decide +kernel
theorem dX7_days_8 : decode cX7_days 8 = .ok (.if_icmp .le 5, 3) := by decide +kernel
theorem dX7_days_11 : decode cX7_days 11 = .ok (.iconst (-1), 1) := by decide +kernel
theorem dX7_days_12 : decode cX7_days 12 = .ok (.ireturn, 1) := by decide +kernel
theorem dX7_days_13 : decode cX7_days 13 = .ok (.aload_n 0, 1) := by decide +kernel
theorem dX7_days_14 : decode cX7_days 14 = .ok (.getfield 26, 3) := by decide +kernel
theorem dX7_days_17 : decode cX7_days 17 = .ok (.iload_n 1, 1) := by decide +kernel
theorem dX7_days_18 : decode cX7_days 18 = .ok (.invokevirtual 269, 3) := by decide +kernel
theorem dX7_days_21 : decode cX7_days 21 = .ok (.aload_n 0, 1) := by decide +kernel
theorem dX7_days_22 : decode cX7_days 22 = .ok (.getfield 26, 3) := by decide +kernel
theorem dX7_days_25 : decode cX7_days 25 = .ok (.getfield 260, 3) := by decide +kernel
theorem dX7_days_28 : decode cX7_days 28 = .ok (.iconst 4, 1) := by decide +kernel
theorem dX7_days_29 : decode cX7_days 29 = .ok (.dup2, 1) := by decide +kernel
theorem dX7_days_30 : decode cX7_days 30 = .ok (.iaload, 1) := by decide +kernel
theorem dX7_days_31 : decode cX7_days 31 = .ok (.iload_n 1, 1) := by decide +kernel
theorem dX7_days_32 : decode cX7_days 32 = .ok (.iadd, 1) := by decide +kernel
theorem dX7_days_33 : decode cX7_days 33 = .ok (.iastore, 1) := by decide +kernel
theorem dX7_days_34 : decode cX7_days 34 = .ok (.aload_n 0, 1) := by decide +kernel
theorem dX7_days_35 : decode cX7_days 35 = .ok (.getfield 26, 3) := by decide +kernel
theorem dX7_days_38 : decode cX7_days 38 = .ok (.getfield 272, 3) := by decide +kernel
theorem dX7_days_41 : decode cX7_days 41 = .ok (.ireturn, 1) := by decide +kernel
theorem dX7_slam_0 : decode cX7_slam 0 = .ok (.iload_n 1, 1) := by decide +kernel
theorem dX7_slam_1 : decode cX7_slam 1 = .ok (.invokestatic 85, 3) := by decide +kernel
theorem dX7_slam_4 : decode cX7_slam 4 = .ok (.ifCond .ne 5, 3) := by decide +kernel
theorem dX7_slam_7 : decode cX7_slam 7 = .ok (.iconst (-1), 1) := by decide +kernel
theorem dX7_slam_8 : decode cX7_slam 8 = .ok (.ireturn, 1) := by decide +kernel
theorem dX7_slam_9 : decode cX7_slam 9 = .ok (.aload_n 0, 1) := by decide +kernel
theorem dX7_slam_10 : decode cX7_slam 10 = .ok (.getfield 26, 3) := by decide +kernel
theorem dX7_slam_13 : decode cX7_slam 13 = .ok (.getfield 169, 3) := by decide +kernel
theorem dX7_slam_16 : decode cX7_slam 16 = .ok (.iload_n 1, 1) := by decide +kernel
theorem dX7_slam_17 : decode cX7_slam 17 = .ok (.iconst 0, 1) := by decide +kernel
theorem dX7_slam_18 : decode cX7_slam 18 = .ok (.aload_n 0, 1) := by decide +kernel
theorem dX7_slam_19 : decode cX7_slam 19 = .ok (.getfield 26, 3) := by decide +kernel
theorem dX7_slam_22 : decode cX7_slam 22 = .ok (.getfield 169, 3) := by decide +kernel
theorem dX7_slam_25 : decode cX7_slam 25 = .ok (.iload_n 1, 1) := by decide +kernel
theorem dX7_slam_26 : decode cX7_slam 26 = .ok (.iaload, 1) := by decide +kernel
theorem dX7_slam_27 : decode cX7_slam 27 = .ok (.iconst 1, 1) := by decide +kernel
theorem dX7_slam_28 : decode cX7_slam 28 = .ok (.isub, 1) := by decide +kernel
theorem dX7_slam_29 : decode cX7_slam 29 = .ok (.invokestatic 275, 3) := by decide +kernel
theorem dX7_slam_32 : decode cX7_slam 32 = .ok (.iastore, 1) := by decide +kernel
theorem dX7_slam_33 : decode cX7_slam 33 = .ok (.aload_n 0, 1) := by decide +kernel
theorem dX7_slam_34 : decode cX7_slam 34 = .ok (.getfield 26, 3) := by decide +kernel
theorem dX7_slam_37 : decode cX7_slam 37 = .ok (.getfield 260, 3) := by decide +kernel
theorem dX7_slam_40 : decode cX7_slam 40 = .ok (.iconst 5, 1) := by decide +kernel
theorem dX7_slam_41 : decode cX7_slam 41 = .ok (.dup2, 1) := by decide +kernel
theorem dX7_slam_42 : decode cX7_slam 42 = .ok (.iaload, 1) := by decide +kernel
theorem dX7_slam_43 : decode cX7_slam 43 = .ok (.iconst 1, 1) := by decide +kernel
theorem dX7_slam_44 : decode cX7_slam 44 = .ok (.iadd, 1) := by decide +kernel
theorem dX7_slam_45 : decode cX7_slam 45 = .ok (.iastore, 1) := by decide +kernel
theorem dX7_slam_46 : decode cX7_slam 46 = .ok (.aload_n 0, 1) := by decide +kernel
theorem dX7_slam_47 : decode cX7_slam 47 = .ok (.getfield 26, 3) := by decide +kernel
theorem dX7_slam_50 : decode cX7_slam 50 = .ok (.getfield 169, 3) := by decide +kernel
theorem dX7_slam_53 : decode cX7_slam 53 = .ok (.iload_n 1, 1) := by decide +kernel
theorem dX7_slam_54 : decode cX7_slam 54 = .ok (.iaload, 1) := by decide +kernel
theorem dX7_slam_55 : decode cX7_slam 55 = .ok (.ireturn, 1) := by decide +kernel
theorem dX7_led_0 : decode cX7_led 0 = .ok (.iload_n 1, 1) := by decide +kernel
theorem dX7_led_1 : decode cX7_led 1 = .ok (.ifCond .lt 15, 3) := by decide +kernel
theorem dX7_led_4 : decode cX7_led 4 = .ok (.iload_n 1, 1) := by decide +kernel
theorem dX7_led_5 : decode cX7_led 5 = .ok (.aload_n 0, 1) := by decide +kernel
theorem dX7_led_6 : decode cX7_led 6 = .ok (.getfield 26, 3) := by decide +kernel
theorem dX7_led_9 : decode cX7_led 9 = .ok (.getfield 260, 3) := by decide +kernel
theorem dX7_led_12 : decode cX7_led 12 = .ok (.arraylength, 1) := by decide +kernel
theorem dX7_led_13 : decode cX7_led 13 = .ok (.if_icmp .lt 5, 3) := by decide +kernel
theorem dX7_led_16 : decode cX7_led 16 = .ok (.iconst (-1), 1) := by decide +kernel
theorem dX7_led_17 : decode cX7_led 17 = .ok (.ireturn, 1) := by decide +kernel
theorem dX7_led_18 : decode cX7_led 18 = .ok (.aload_n 0, 1) := by decide +kernel
theorem dX7_led_19 : decode cX7_led 19 = .ok (.getfield 26, 3) := by decide +kernel
theorem dX7_led_22 : decode cX7_led 22 = .ok (.getfield 260, 3) := by decide +kernel
theorem dX7_led_25 : decode cX7_led 25 = .ok (.iload_n 1, 1) := by decide +kernel
theorem dX7_led_26 : decode cX7_led 26 = .ok (.iaload, 1) := by decide +kernel
theorem dX7_led_27 : decode cX7_led 27 = .ok (.ireturn, 1) := by decide +kernel
theorem dX7_image_0 : decode cX7_image 0 = .ok (.aload_n 0, 1) := by decide +kernel
theorem dX7_image_1 : decode cX7_image 1 = .ok (.getfield 33, 3) := by decide +kernel
theorem dX7_image_4 : decode cX7_image 4 = .ok (.aload_n 0, 1) := by decide +kernel
theorem dX7_image_5 : decode cX7_image 5 = .ok (.getfield 26, 3) := by decide +kernel
theorem dX7_image_8 : decode cX7_image 8 = .ok (.invokevirtual 187, 3) := by decide +kernel
theorem dX7_image_11 : decode cX7_image 11 = .ok (.aload_n 0, 1) := by decide +kernel
theorem dX7_image_12 : decode cX7_image 12 = .ok (.iconst 1, 1) := by decide +kernel
theorem dX7_image_13 : decode cX7_image 13 = .ok (.putfield 36, 3) := by decide +kernel
theorem dX7_image_16 : decode cX7_image 16 = .ok (.aload_n 0, 1) := by decide +kernel
theorem dX7_image_17 : decode cX7_image 17 = .ok (.aload_n 0, 1) := by decide +kernel
theorem dX7_image_18 : decode cX7_image 18 = .ok (.getfield 10, 3) := by decide +kernel
theorem dX7_image_21 : decode cX7_image 21 = .ok (.getfield 100, 3) := by decide +kernel
theorem dX7_image_24 : decode cX7_image 24 = .ok (.putfield 40, 3) := by decide +kernel
theorem dX7_image_27 : decode cX7_image 27 = .ok (.aload_n 0, 1) := by decide +kernel
theorem dX7_image_28 : decode cX7_image 28 = .ok (.getfield 26, 3) := by decide +kernel
theorem dX7_image_31 : decode cX7_image 31 = .ok (.getfield 260, 3) := by decide +kernel
theorem dX7_image_34 : decode cX7_image 34 = .ok (.iconst 0, 1) := by decide +kernel
theorem dX7_image_35 : decode cX7_image 35 = .ok (.iaload, 1) := by decide +kernel
theorem dX7_image_36 : decode cX7_image 36 = .ok (.ireturn, 1) := by decide +kernel
theorem dX7_back_0 : decode cX7_back 0 = .ok (.aload_n 0, 1) := by decide +kernel
theorem dX7_back_1 : decode cX7_back 1 = .ok (.getfield 36, 3) := by decide +kernel
theorem dX7_back_4 : decode cX7_back 4 = .ok (.ifCond .ne 6, 3) := by decide +kernel
theorem dX7_back_7 : decode cX7_back 7 = .ok (.bipush (-5), 2) := by decide +kernel
theorem dX7_back_9 : decode cX7_back 9 = .ok (.ireturn, 1) := by decide +kernel
theorem dX7_back_10 : decode cX7_back 10 = .ok (.aload_n 0, 1) := by decide +kernel
theorem dX7_back_11 : decode cX7_back 11 = .ok (.getfield 26, 3) := by decide +kernel
theorem dX7_back_14 : decode cX7_back 14 = .ok (.aload_n 0, 1) := by decide +kernel
theorem dX7_back_15 : decode cX7_back 15 = .ok (.getfield 33, 3) := by decide +kernel
theorem dX7_back_18 : decode cX7_back 18 = .ok (.aload_n 0, 1) := by decide +kernel
theorem dX7_back_19 : decode cX7_back 19 = .ok (.getfield 40, 3) := by decide +kernel
theorem dX7_back_22 : decode cX7_back 22 = .ok (.invokevirtual 280, 3) := by decide +kernel
theorem dX7_back_25 : decode cX7_back 25 = .ok (.aload_n 0, 1) := by decide +kernel
theorem dX7_back_26 : decode cX7_back 26 = .ok (.getfield 26, 3) := by decide +kernel
theorem dX7_back_29 : decode cX7_back 29 = .ok (.getfield 260, 3) := by decide +kernel
theorem dX7_back_32 : decode cX7_back 32 = .ok (.iconst 0, 1) := by decide +kernel
theorem dX7_back_33 : decode cX7_back 33 = .ok (.iaload, 1) := by decide +kernel
theorem dX7_back_34 : decode cX7_back 34 = .ok (.ireturn, 1) := by decide +kernel
theorem dX7_undo_0 : decode cX7_undo 0 = .ok (.aload_n 0, 1) := by decide +kernel
theorem dX7_undo_1 : decode cX7_undo 1 = .ok (.getfield 47, 3) := by decide +kernel
theorem dX7_undo_4 : decode cX7_undo 4 = .ok (.invokevirtual 284, 3) := by decide +kernel
theorem dX7_undo_7 : decode cX7_undo 7 = .ok (.ifCond .ne 6, 3) := by decide +kernel
theorem dX7_undo_10 : decode cX7_undo 10 = .ok (.bipush (-5), 2) := by decide +kernel
theorem dX7_undo_12 : decode cX7_undo 12 = .ok (.ireturn, 1) := by decide +kernel
theorem dX7_undo_13 : decode cX7_undo 13 = .ok (.aload_n 0, 1) := by decide +kernel
theorem dX7_undo_14 : decode cX7_undo 14 = .ok (.getfield 47, 3) := by decide +kernel
theorem dX7_undo_17 : decode cX7_undo 17 = .ok (.invokevirtual 288, 3) := by decide +kernel
theorem dX7_undo_20 : decode cX7_undo 20 = .ok (.istore_n 1, 1) := by decide +kernel
theorem dX7_undo_21 : decode cX7_undo 21 = .ok (.aload_n 0, 1) := by decide +kernel
theorem dX7_undo_22 : decode cX7_undo 22 = .ok (.aload_n 0, 1) := by decide +kernel
theorem dX7_undo_23 : decode cX7_undo 23 = .ok (.getfield 47, 3) := by decide +kernel
theorem dX7_undo_26 : decode cX7_undo 26 = .ok (.getfield 291, 3) := by decide +kernel
theorem dX7_undo_29 : decode cX7_undo 29 = .ok (.iload_n 1, 1) := by decide +kernel
theorem dX7_undo_30 : decode cX7_undo 30 = .ok (.iaload, 1) := by decide +kernel
theorem dX7_undo_31 : decode cX7_undo 31 = .ok (.aload_n 0, 1) := by decide +kernel
theorem dX7_undo_32 : decode cX7_undo 32 = .ok (.getfield 47, 3) := by decide +kernel
theorem dX7_undo_35 : decode cX7_undo 35 = .ok (.getfield 292, 3) := by decide +kernel
theorem dX7_undo_38 : decode cX7_undo 38 = .ok (.iload_n 1, 1) := by decide +kernel
theorem dX7_undo_39 : decode cX7_undo 39 = .ok (.iaload, 1) := by decide +kernel
theorem dX7_undo_40 : decode cX7_undo 40 = .ok (.aload_n 0, 1) := by decide +kernel
theorem dX7_undo_41 : decode cX7_undo 41 = .ok (.getfield 47, 3) := by decide +kernel
theorem dX7_undo_44 : decode cX7_undo 44 = .ok (.getfield 295, 3) := by decide +kernel
theorem dX7_undo_47 : decode cX7_undo 47 = .ok (.iload_n 1, 1) := by decide +kernel
theorem dX7_undo_48 : decode cX7_undo 48 = .ok (.iaload, 1) := by decide +kernel
theorem dX7_undo_49 : decode cX7_undo 49 = .ok (.invokevirtual 138, 3) := by decide +kernel
theorem dX7_undo_52 : decode cX7_undo 52 = .ok (.aload_n 0, 1) := by decide +kernel
theorem dX7_undo_53 : decode cX7_undo 53 = .ok (.getfield 47, 3) := by decide +kernel
theorem dX7_undo_56 : decode cX7_undo 56 = .ok (.getfield 298, 3) := by decide +kernel
theorem dX7_undo_59 : decode cX7_undo 59 = .ok (.ireturn, 1) := by decide +kernel
theorem dX7_redo_0 : decode cX7_redo 0 = .ok (.aload_n 0, 1) := by decide +kernel
theorem dX7_redo_1 : decode cX7_redo 1 = .ok (.getfield 47, 3) := by decide +kernel
theorem dX7_redo_4 : decode cX7_redo 4 = .ok (.invokevirtual 301, 3) := by decide +kernel
theorem dX7_redo_7 : decode cX7_redo 7 = .ok (.ifCond .ne 6, 3) := by decide +kernel
theorem dX7_redo_10 : decode cX7_redo 10 = .ok (.bipush (-5), 2) := by decide +kernel
theorem dX7_redo_12 : decode cX7_redo 12 = .ok (.ireturn, 1) := by decide +kernel
theorem dX7_redo_13 : decode cX7_redo 13 = .ok (.aload_n 0, 1) := by decide +kernel
theorem dX7_redo_14 : decode cX7_redo 14 = .ok (.getfield 47, 3) := by decide +kernel
theorem dX7_redo_17 : decode cX7_redo 17 = .ok (.invokevirtual 304, 3) := by decide +kernel
theorem dX7_redo_20 : decode cX7_redo 20 = .ok (.istore_n 1, 1) := by decide +kernel
theorem dX7_redo_21 : decode cX7_redo 21 = .ok (.aload_n 0, 1) := by decide +kernel
theorem dX7_redo_22 : decode cX7_redo 22 = .ok (.aload_n 0, 1) := by decide +kernel
theorem dX7_redo_23 : decode cX7_redo 23 = .ok (.getfield 47, 3) := by decide +kernel
theorem dX7_redo_26 : decode cX7_redo 26 = .ok (.getfield 291, 3) := by decide +kernel
theorem dX7_redo_29 : decode cX7_redo 29 = .ok (.iload_n 1, 1) := by decide +kernel
theorem dX7_redo_30 : decode cX7_redo 30 = .ok (.iaload, 1) := by decide +kernel
theorem dX7_redo_31 : decode cX7_redo 31 = .ok (.aload_n 0, 1) := by decide +kernel
theorem dX7_redo_32 : decode cX7_redo 32 = .ok (.getfield 47, 3) := by decide +kernel
theorem dX7_redo_35 : decode cX7_redo 35 = .ok (.getfield 292, 3) := by decide +kernel
theorem dX7_redo_38 : decode cX7_redo 38 = .ok (.iload_n 1, 1) := by decide +kernel
theorem dX7_redo_39 : decode cX7_redo 39 = .ok (.iaload, 1) := by decide +kernel
theorem dX7_redo_40 : decode cX7_redo 40 = .ok (.aload_n 0, 1) := by decide +kernel
theorem dX7_redo_41 : decode cX7_redo 41 = .ok (.getfield 47, 3) := by decide +kernel
theorem dX7_redo_44 : decode cX7_redo 44 = .ok (.getfield 307, 3) := by decide +kernel
theorem dX7_redo_47 : decode cX7_redo 47 = .ok (.iload_n 1, 1) := by decide +kernel
theorem dX7_redo_48 : decode cX7_redo 48 = .ok (.iaload, 1) := by decide +kernel
theorem dX7_redo_49 : decode cX7_redo 49 = .ok (.invokevirtual 138, 3) := by decide +kernel
theorem dX7_redo_52 : decode cX7_redo 52 = .ok (.aload_n 0, 1) := by decide +kernel
theorem dX7_redo_53 : decode cX7_redo 53 = .ok (.getfield 47, 3) := by decide +kernel
theorem dX7_redo_56 : decode cX7_redo 56 = .ok (.getfield 310, 3) := by decide +kernel
theorem dX7_redo_59 : decode cX7_redo 59 = .ok (.aload_n 0, 1) := by decide +kernel
theorem dX7_redo_60 : decode cX7_redo 60 = .ok (.getfield 47, 3) := by decide +kernel
theorem dX7_redo_63 : decode cX7_redo 63 = .ok (.getfield 298, 3) := by decide +kernel
theorem dX7_redo_66 : decode cX7_redo 66 = .ok (.isub, 1) := by decide +kernel
theorem dX7_redo_67 : decode cX7_redo 67 = .ok (.ireturn, 1) := by decide +kernel
theorem dX7_body_0 : decode cX7_body 0 = .ok (.aload_n 0, 1) := by decide +kernel
theorem dX7_body_1 : decode cX7_body 1 = .ok (.getfield 61, 3) := by decide +kernel
theorem dX7_body_4 : decode cX7_body 4 = .ok (.iload_n 1, 1) := by decide +kernel
theorem dX7_body_5 : decode cX7_body 5 = .ok (.invokevirtual 313, 3) := by decide +kernel
theorem dX7_body_8 : decode cX7_body 8 = .ok (.ifCond .ne 5, 3) := by decide +kernel
theorem dX7_body_11 : decode cX7_body 11 = .ok (.iconst (-1), 1) := by decide +kernel
theorem dX7_body_12 : decode cX7_body 12 = .ok (.ireturn, 1) := by decide +kernel
theorem dX7_body_13 : decode cX7_body 13 = .ok (.aload_n 0, 1) := by decide +kernel
theorem dX7_body_14 : decode cX7_body 14 = .ok (.getfield 61, 3) := by decide +kernel
theorem dX7_body_17 : decode cX7_body 17 = .ok (.iload_n 1, 1) := by decide +kernel
theorem dX7_body_18 : decode cX7_body 18 = .ok (.invokevirtual 316, 3) := by decide +kernel
theorem dX7_body_21 : decode cX7_body 21 = .ok (.ireturn, 1) := by decide +kernel
theorem dX7_act_0 : decode cX7_act 0 = .ok (.aload_n 0, 1) := by decide +kernel
theorem dX7_act_1 : decode cX7_act 1 = .ok (.getfield 61, 3) := by decide +kernel
theorem dX7_act_4 : decode cX7_act 4 = .ok (.iload_n 1, 1) := by decide +kernel
theorem dX7_act_5 : decode cX7_act 5 = .ok (.iload_n 2, 1) := by decide +kernel
theorem dX7_act_6 : decode cX7_act 6 = .ok (.iload_n 3, 1) := by decide +kernel
theorem dX7_act_7 : decode cX7_act 7 = .ok (.invokevirtual 319, 3) := by decide +kernel
theorem dX7_act_10 : decode cX7_act 10 = .ok (.ireturn, 1) := by decide +kernel
theorem dX7_trace_0 : decode cX7_trace 0 = .ok (.aload_n 0, 1) := by decide +kernel
theorem dX7_trace_1 : decode cX7_trace 1 = .ok (.getfield 61, 3) := by decide +kernel
theorem dX7_trace_4 : decode cX7_trace 4 = .ok (.iload_n 1, 1) := by decide +kernel
theorem dX7_trace_5 : decode cX7_trace 5 = .ok (.invokevirtual 322, 3) := by decide +kernel
theorem dX7_trace_8 : decode cX7_trace 8 = .ok (.ireturn, 1) := by decide +kernel
theorem dX7_keep_0 : decode cX7_keep 0 = .ok (.aload_n 0, 1) := by decide +kernel
theorem dX7_keep_1 : decode cX7_keep 1 = .ok (.getfield 54, 3) := by decide +kernel
theorem dX7_keep_4 : decode cX7_keep 4 = .ok (.iload_n 1, 1) := by decide +kernel
theorem dX7_keep_5 : decode cX7_keep 5 = .ok (.invokevirtual 107, 3) := by decide +kernel
theorem dX7_keep_8 : decode cX7_keep 8 = .ok (.ifCond .ne 5, 3) := by decide +kernel
theorem dX7_keep_11 : decode cX7_keep 11 = .ok (.iconst (-1), 1) := by decide +kernel
theorem dX7_keep_12 : decode cX7_keep 12 = .ok (.ireturn, 1) := by decide +kernel
theorem dX7_keep_13 : decode cX7_keep 13 = .ok (.iload_n 2, 1) := by decide +kernel
theorem dX7_keep_14 : decode cX7_keep 14 = .ok (.iconst (-1), 1) := by decide +kernel
theorem dX7_keep_15 : decode cX7_keep 15 = .ok (.if_icmp .ne 13, 3) := by decide +kernel
theorem dX7_keep_18 : decode cX7_keep 18 = .ok (.aload_n 0, 1) := by decide +kernel
theorem dX7_keep_19 : decode cX7_keep 19 = .ok (.getfield 54, 3) := by decide +kernel
theorem dX7_keep_22 : decode cX7_keep 22 = .ok (.iload_n 1, 1) := by decide +kernel
theorem dX7_keep_23 : decode cX7_keep 23 = .ok (.invokevirtual 325, 3) := by decide +kernel
theorem dX7_keep_26 : decode cX7_keep 26 = .ok (.iconst 1, 1) := by decide +kernel
theorem dX7_keep_27 : decode cX7_keep 27 = .ok (.ireturn, 1) := by decide +kernel
theorem dX7_keep_28 : decode cX7_keep 28 = .ok (.aload_n 0, 1) := by decide +kernel
theorem dX7_keep_29 : decode cX7_keep 29 = .ok (.getfield 61, 3) := by decide +kernel
theorem dX7_keep_32 : decode cX7_keep 32 = .ok (.iload_n 2, 1) := by decide +kernel
theorem dX7_keep_33 : decode cX7_keep 33 = .ok (.invokevirtual 328, 3) := by decide +kernel
theorem dX7_keep_36 : decode cX7_keep 36 = .ok (.ifCond .ne 5, 3) := by decide +kernel
theorem dX7_keep_39 : decode cX7_keep 39 = .ok (.iconst (-1), 1) := by decide +kernel
theorem dX7_keep_40 : decode cX7_keep 40 = .ok (.ireturn, 1) := by decide +kernel
theorem dX7_keep_41 : decode cX7_keep 41 = .ok (.aload_n 0, 1) := by decide +kernel
theorem dX7_keep_42 : decode cX7_keep 42 = .ok (.getfield 54, 3) := by decide +kernel
theorem dX7_keep_45 : decode cX7_keep 45 = .ok (.iload_n 1, 1) := by decide +kernel
theorem dX7_keep_46 : decode cX7_keep 46 = .ok (.iload_n 2, 1) := by decide +kernel
theorem dX7_keep_47 : decode cX7_keep 47 = .ok (.invokevirtual 331, 3) := by decide +kernel
theorem dX7_keep_50 : decode cX7_keep 50 = .ok (.iconst 1, 1) := by decide +kernel
theorem dX7_keep_51 : decode cX7_keep 51 = .ok (.ireturn, 1) := by decide +kernel
theorem dX7_row_0 : decode cX7_row 0 = .ok (.aload_n 0, 1) := by decide +kernel
theorem dX7_row_1 : decode cX7_row 1 = .ok (.getfield 54, 3) := by decide +kernel
theorem dX7_row_4 : decode cX7_row 4 = .ok (.iload_n 1, 1) := by decide +kernel
theorem dX7_row_5 : decode cX7_row 5 = .ok (.invokevirtual 107, 3) := by decide +kernel
theorem dX7_row_8 : decode cX7_row 8 = .ok (.ifCond .eq 20, 3) := by decide +kernel
theorem dX7_row_11 : decode cX7_row 11 = .ok (.aload_n 0, 1) := by decide +kernel
theorem dX7_row_12 : decode cX7_row 12 = .ok (.getfield 54, 3) := by decide +kernel
theorem dX7_row_15 : decode cX7_row 15 = .ok (.iload_n 2, 1) := by decide +kernel
theorem dX7_row_16 : decode cX7_row 16 = .ok (.invokevirtual 334, 3) := by decide +kernel
theorem dX7_row_19 : decode cX7_row 19 = .ok (.ifCond .eq 9, 3) := by decide +kernel
theorem dX7_row_22 : decode cX7_row 22 = .ok (.iload_n 3, 1) := by decide +kernel
theorem dX7_row_23 : decode cX7_row 23 = .ok (.bipush 60, 2) := by decide +kernel
theorem dX7_row_25 : decode cX7_row 25 = .ok (.if_icmp .le 5, 3) := by decide +kernel
theorem dX7_row_28 : decode cX7_row 28 = .ok (.iconst (-1), 1) := by decide +kernel
theorem dX7_row_29 : decode cX7_row 29 = .ok (.ireturn, 1) := by decide +kernel
theorem dX7_row_30 : decode cX7_row 30 = .ok (.iload_n 3, 1) := by decide +kernel
theorem dX7_row_31 : decode cX7_row 31 = .ok (.ifCond .ge 6, 3) := by decide +kernel
theorem dX7_row_34 : decode cX7_row 34 = .ok (.bipush (-14), 2) := by decide +kernel
theorem dX7_row_36 : decode cX7_row 36 = .ok (.ireturn, 1) := by decide +kernel
theorem dX7_row_37 : decode cX7_row 37 = .ok (.aload_n 0, 1) := by decide +kernel
theorem dX7_row_38 : decode cX7_row 38 = .ok (.getfield 54, 3) := by decide +kernel
theorem dX7_row_41 : decode cX7_row 41 = .ok (.iload_n 1, 1) := by decide +kernel
theorem dX7_row_42 : decode cX7_row 42 = .ok (.iload_n 2, 1) := by decide +kernel
theorem dX7_row_43 : decode cX7_row 43 = .ok (.iload_n 3, 1) := by decide +kernel
theorem dX7_row_44 : decode cX7_row 44 = .ok (.invokevirtual 337, 3) := by decide +kernel
theorem dX7_row_47 : decode cX7_row 47 = .ok (.iconst 1, 1) := by decide +kernel
theorem dX7_row_48 : decode cX7_row 48 = .ok (.ireturn, 1) := by decide +kernel
theorem dX7_put_0 : decode cX7_put 0 = .ok (.aload_n 0, 1) := by decide +kernel
theorem dX7_put_1 : decode cX7_put 1 = .ok (.iload_n 1, 1) := by decide +kernel
theorem dX7_put_2 : decode cX7_put 2 = .ok (.iload_n 2, 1) := by decide +kernel
theorem dX7_put_3 : decode cX7_put 3 = .ok (.invokevirtual 340, 3) := by decide +kernel
theorem dX7_put_6 : decode cX7_put 6 = .ok (.istore 5, 2) := by decide +kernel
theorem dX7_put_8 : decode cX7_put 8 = .ok (.iload 5, 2) := by decide +kernel
theorem dX7_put_10 : decode cX7_put 10 = .ok (.ifCond .eq 6, 3) := by decide +kernel
theorem dX7_put_13 : decode cX7_put 13 = .ok (.iload 5, 2) := by decide +kernel
theorem dX7_put_15 : decode cX7_put 15 = .ok (.ireturn, 1) := by decide +kernel
theorem dX7_put_16 : decode cX7_put 16 = .ok (.aload_n 0, 1) := by decide +kernel
theorem dX7_put_17 : decode cX7_put 17 = .ok (.getfield 54, 3) := by decide +kernel
theorem dX7_put_20 : decode cX7_put 20 = .ok (.iload_n 1, 1) := by decide +kernel
theorem dX7_put_21 : decode cX7_put 21 = .ok (.iload_n 2, 1) := by decide +kernel
theorem dX7_put_22 : decode cX7_put 22 = .ok (.lload_n 3, 1) := by decide +kernel
theorem dX7_put_23 : decode cX7_put 23 = .ok (.invokevirtual 343, 3) := by decide +kernel
theorem dX7_put_26 : decode cX7_put 26 = .ok (.iconst 1, 1) := by decide +kernel
theorem dX7_put_27 : decode cX7_put 27 = .ok (.ireturn, 1) := by decide +kernel
theorem dX7_element_0 : decode cX7_element 0 = .ok (.aload_n 0, 1) := by decide +kernel
theorem dX7_element_1 : decode cX7_element 1 = .ok (.iload_n 1, 1) := by decide +kernel
theorem dX7_element_2 : decode cX7_element 2 = .ok (.iload_n 2, 1) := by decide +kernel
theorem dX7_element_3 : decode cX7_element 3 = .ok (.invokevirtual 340, 3) := by decide +kernel
theorem dX7_element_6 : decode cX7_element 6 = .ok (.ifCond .eq 7, 3) := by decide +kernel
theorem dX7_element_9 : decode cX7_element 9 = .ok (.ldc2_w 347, 3) := by decide +kernel
theorem dX7_element_12 : decode cX7_element 12 = .ok (.lreturn, 1) := by decide +kernel
theorem dX7_element_13 : decode cX7_element 13 = .ok (.aload_n 0, 1) := by decide +kernel
theorem dX7_element_14 : decode cX7_element 14 = .ok (.getfield 54, 3) := by decide +kernel
theorem dX7_element_17 : decode cX7_element 17 = .ok (.iload_n 1, 1) := by decide +kernel
theorem dX7_element_18 : decode cX7_element 18 = .ok (.iload_n 2, 1) := by decide +kernel
theorem dX7_element_19 : decode cX7_element 19 = .ok (.invokevirtual 120, 3) := by decide +kernel
theorem dX7_element_22 : decode cX7_element 22 = .ok (.lreturn, 1) := by decide +kernel
theorem dX7_shift_0 : decode cX7_shift 0 = .ok (.aload_n 0, 1) := by decide +kernel
theorem dX7_shift_1 : decode cX7_shift 1 = .ok (.getfield 54, 3) := by decide +kernel
theorem dX7_shift_4 : decode cX7_shift 4 = .ok (.iload_n 1, 1) := by decide +kernel
theorem dX7_shift_5 : decode cX7_shift 5 = .ok (.invokevirtual 107, 3) := by decide +kernel
theorem dX7_shift_8 : decode cX7_shift 8 = .ok (.ifCond .eq 14, 3) := by decide +kernel
theorem dX7_shift_11 : decode cX7_shift 11 = .ok (.aload_n 0, 1) := by decide +kernel
theorem dX7_shift_12 : decode cX7_shift 12 = .ok (.getfield 54, 3) := by decide +kernel
theorem dX7_shift_15 : decode cX7_shift 15 = .ok (.iload_n 3, 1) := by decide +kernel
theorem dX7_shift_16 : decode cX7_shift 16 = .ok (.invokevirtual 107, 3) := by decide +kernel
theorem dX7_shift_19 : decode cX7_shift 19 = .ok (.ifCond .ne 5, 3) := by decide +kernel
theorem dX7_shift_22 : decode cX7_shift 22 = .ok (.iconst (-1), 1) := by decide +kernel
theorem dX7_shift_23 : decode cX7_shift 23 = .ok (.ireturn, 1) := by decide +kernel
theorem dX7_shift_24 : decode cX7_shift 24 = .ok (.aload_n 0, 1) := by decide +kernel
theorem dX7_shift_25 : decode cX7_shift 25 = .ok (.getfield 54, 3) := by decide +kernel
theorem dX7_shift_28 : decode cX7_shift 28 = .ok (.iload_n 1, 1) := by decide +kernel
theorem dX7_shift_29 : decode cX7_shift 29 = .ok (.invokevirtual 110, 3) := by decide +kernel
theorem dX7_shift_32 : decode cX7_shift 32 = .ok (.ifCond .ne 14, 3) := by decide +kernel
theorem dX7_shift_35 : decode cX7_shift 35 = .ok (.aload_n 0, 1) := by decide +kernel
theorem dX7_shift_36 : decode cX7_shift 36 = .ok (.getfield 54, 3) := by decide +kernel
theorem dX7_shift_39 : decode cX7_shift 39 = .ok (.iload_n 3, 1) := by decide +kernel
theorem dX7_shift_40 : decode cX7_shift 40 = .ok (.invokevirtual 110, 3) := by decide +kernel
theorem dX7_shift_43 : decode cX7_shift 43 = .ok (.ifCond .eq 6, 3) := by decide +kernel
theorem dX7_shift_46 : decode cX7_shift 46 = .ok (.bipush (-11), 2) := by decide +kernel
theorem dX7_shift_48 : decode cX7_shift 48 = .ok (.ireturn, 1) := by decide +kernel
theorem dX7_shift_49 : decode cX7_shift 49 = .ok (.aload_n 0, 1) := by decide +kernel
theorem dX7_shift_50 : decode cX7_shift 50 = .ok (.getfield 54, 3) := by decide +kernel
theorem dX7_shift_53 : decode cX7_shift 53 = .ok (.iload_n 1, 1) := by decide +kernel
theorem dX7_shift_54 : decode cX7_shift 54 = .ok (.iload_n 3, 1) := by decide +kernel
theorem dX7_shift_55 : decode cX7_shift 55 = .ok (.invokevirtual 349, 3) := by decide +kernel
theorem dX7_shift_58 : decode cX7_shift 58 = .ok (.ifCond .ne 6, 3) := by decide +kernel
theorem dX7_shift_61 : decode cX7_shift 61 = .ok (.bipush (-12), 2) := by decide +kernel
theorem dX7_shift_63 : decode cX7_shift 63 = .ok (.ireturn, 1) := by decide +kernel
theorem dX7_shift_64 : decode cX7_shift 64 = .ok (.aload_n 0, 1) := by decide +kernel
theorem dX7_shift_65 : decode cX7_shift 65 = .ok (.getfield 54, 3) := by decide +kernel
theorem dX7_shift_68 : decode cX7_shift 68 = .ok (.iload_n 1, 1) := by decide +kernel
theorem dX7_shift_69 : decode cX7_shift 69 = .ok (.iload_n 2, 1) := by decide +kernel
theorem dX7_shift_70 : decode cX7_shift 70 = .ok (.iload 5, 2) := by decide +kernel
theorem dX7_shift_72 : decode cX7_shift 72 = .ok (.invokevirtual 117, 3) := by decide +kernel
theorem dX7_shift_75 : decode cX7_shift 75 = .ok (.ifCond .eq 18, 3) := by decide +kernel
theorem dX7_shift_78 : decode cX7_shift 78 = .ok (.aload_n 0, 1) := by decide +kernel
theorem dX7_shift_79 : decode cX7_shift 79 = .ok (.getfield 54, 3) := by decide +kernel
theorem dX7_shift_82 : decode cX7_shift 82 = .ok (.iload_n 3, 1) := by decide +kernel
theorem dX7_shift_83 : decode cX7_shift 83 = .ok (.iload 4, 2) := by decide +kernel
theorem dX7_shift_85 : decode cX7_shift 85 = .ok (.iload 5, 2) := by decide +kernel
theorem dX7_shift_87 : decode cX7_shift 87 = .ok (.invokevirtual 117, 3) := by decide +kernel
theorem dX7_shift_90 : decode cX7_shift 90 = .ok (.ifCond .ne 6, 3) := by decide +kernel
theorem dX7_shift_93 : decode cX7_shift 93 = .ok (.bipush (-13), 2) := by decide +kernel
theorem dX7_shift_95 : decode cX7_shift 95 = .ok (.ireturn, 1) := by decide +kernel
theorem dX7_shift_96 : decode cX7_shift 96 = .ok (.aload_n 0, 1) := by decide +kernel
theorem dX7_shift_97 : decode cX7_shift 97 = .ok (.getfield 54, 3) := by decide +kernel
theorem dX7_shift_100 : decode cX7_shift 100 = .ok (.iload_n 1, 1) := by decide +kernel
theorem dX7_shift_101 : decode cX7_shift 101 = .ok (.iload_n 2, 1) := by decide +kernel
theorem dX7_shift_102 : decode cX7_shift 102 = .ok (.iload_n 3, 1) := by decide +kernel
theorem dX7_shift_103 : decode cX7_shift 103 = .ok (.iload 4, 2) := by decide +kernel
theorem dX7_shift_105 : decode cX7_shift 105 = .ok (.iload 5, 2) := by decide +kernel
theorem dX7_shift_107 : decode cX7_shift 107 = .ok (.invokevirtual 352, 3) := by decide +kernel
theorem dX7_shift_110 : decode cX7_shift 110 = .ok (.iload 5, 2) := by decide +kernel
theorem dX7_shift_112 : decode cX7_shift 112 = .ok (.ireturn, 1) := by decide +kernel
theorem dX7_taken_0 : decode cX7_taken 0 = .ok (.aload_n 0, 1) := by decide +kernel
theorem dX7_taken_1 : decode cX7_taken 1 = .ok (.getfield 54, 3) := by decide +kernel
theorem dX7_taken_4 : decode cX7_taken 4 = .ok (.iload_n 1, 1) := by decide +kernel
theorem dX7_taken_5 : decode cX7_taken 5 = .ok (.invokevirtual 107, 3) := by decide +kernel
theorem dX7_taken_8 : decode cX7_taken 8 = .ok (.ifCond .eq 14, 3) := by decide +kernel
theorem dX7_taken_11 : decode cX7_taken 11 = .ok (.aload_n 0, 1) := by decide +kernel
theorem dX7_taken_12 : decode cX7_taken 12 = .ok (.getfield 61, 3) := by decide +kernel
theorem dX7_taken_15 : decode cX7_taken 15 = .ok (.iload_n 2, 1) := by decide +kernel
theorem dX7_taken_16 : decode cX7_taken 16 = .ok (.invokevirtual 313, 3) := by decide +kernel
theorem dX7_taken_19 : decode cX7_taken 19 = .ok (.ifCond .ne 5, 3) := by decide +kernel
theorem dX7_taken_22 : decode cX7_taken 22 = .ok (.iconst (-1), 1) := by decide +kernel
theorem dX7_taken_23 : decode cX7_taken 23 = .ok (.ireturn, 1) := by decide +kernel
theorem dX7_taken_24 : decode cX7_taken 24 = .ok (.aload_n 0, 1) := by decide +kernel
theorem dX7_taken_25 : decode cX7_taken 25 = .ok (.getfield 54, 3) := by decide +kernel
theorem dX7_taken_28 : decode cX7_taken 28 = .ok (.iload_n 1, 1) := by decide +kernel
theorem dX7_taken_29 : decode cX7_taken 29 = .ok (.invokevirtual 110, 3) := by decide +kernel
theorem dX7_taken_32 : decode cX7_taken 32 = .ok (.ifCond .eq 6, 3) := by decide +kernel
theorem dX7_taken_35 : decode cX7_taken 35 = .ok (.bipush (-11), 2) := by decide +kernel
theorem dX7_taken_37 : decode cX7_taken 37 = .ok (.ireturn, 1) := by decide +kernel
theorem dX7_taken_38 : decode cX7_taken 38 = .ok (.aload_n 0, 1) := by decide +kernel
theorem dX7_taken_39 : decode cX7_taken 39 = .ok (.getfield 54, 3) := by decide +kernel
theorem dX7_taken_42 : decode cX7_taken 42 = .ok (.iload_n 1, 1) := by decide +kernel
theorem dX7_taken_43 : decode cX7_taken 43 = .ok (.invokevirtual 356, 3) := by decide +kernel
theorem dX7_taken_46 : decode cX7_taken 46 = .ok (.ifCond .ne 6, 3) := by decide +kernel
theorem dX7_taken_49 : decode cX7_taken 49 = .ok (.bipush (-12), 2) := by decide +kernel
theorem dX7_taken_51 : decode cX7_taken 51 = .ok (.ireturn, 1) := by decide +kernel
theorem dX7_taken_52 : decode cX7_taken 52 = .ok (.aload_n 0, 1) := by decide +kernel
theorem dX7_taken_53 : decode cX7_taken 53 = .ok (.getfield 61, 3) := by decide +kernel
theorem dX7_taken_56 : decode cX7_taken 56 = .ok (.aload_n 0, 1) := by decide +kernel
theorem dX7_taken_57 : decode cX7_taken 57 = .ok (.getfield 54, 3) := by decide +kernel
theorem dX7_taken_60 : decode cX7_taken 60 = .ok (.iload_n 1, 1) := by decide +kernel
theorem dX7_taken_61 : decode cX7_taken 61 = .ok (.invokevirtual 359, 3) := by decide +kernel
theorem dX7_taken_64 : decode cX7_taken 64 = .ok (.invokevirtual 362, 3) := by decide +kernel
theorem dX7_taken_67 : decode cX7_taken 67 = .ok (.istore_n 3, 1) := by decide +kernel
theorem dX7_taken_68 : decode cX7_taken 68 = .ok (.aload_n 0, 1) := by decide +kernel
theorem dX7_taken_69 : decode cX7_taken 69 = .ok (.getfield 61, 3) := by decide +kernel
theorem dX7_taken_72 : decode cX7_taken 72 = .ok (.iload_n 3, 1) := by decide +kernel
theorem dX7_taken_73 : decode cX7_taken 73 = .ok (.iload_n 2, 1) := by decide +kernel
theorem dX7_taken_74 : decode cX7_taken 74 = .ok (.invokevirtual 365, 3) := by decide +kernel
theorem dX7_taken_77 : decode cX7_taken 77 = .ok (.ifCond .eq 7, 3) := by decide +kernel
theorem dX7_taken_80 : decode cX7_taken 80 = .ok (.iload_n 3, 1) := by decide +kernel
theorem dX7_taken_81 : decode cX7_taken 81 = .ok (.goto 5, 3) := by decide +kernel
theorem dX7_taken_84 : decode cX7_taken 84 = .ok (.bipush (-12), 2) := by decide +kernel
theorem dX7_taken_86 : decode cX7_taken 86 = .ok (.ireturn, 1) := by decide +kernel
theorem dX7_count_0 : decode cX7_count 0 = .ok (.iload_n 1, 1) := by decide +kernel
theorem dX7_count_1 : decode cX7_count 1 = .ok (.tableswitch 87 0 5 #[39, 47, 55, 63, 71, 79], 39) := by decide +kernel
theorem dX7_count_40 : decode cX7_count 40 = .ok (.aload_n 0, 1) := by decide +kernel
theorem dX7_count_41 : decode cX7_count 41 = .ok (.getfield 10, 3) := by decide +kernel
theorem dX7_count_44 : decode cX7_count 44 = .ok (.getfield 89, 3) := by decide +kernel
theorem dX7_count_47 : decode cX7_count 47 = .ok (.ireturn, 1) := by decide +kernel
theorem dX7_count_48 : decode cX7_count 48 = .ok (.aload_n 0, 1) := by decide +kernel
theorem dX7_count_49 : decode cX7_count 49 = .ok (.getfield 10, 3) := by decide +kernel
theorem dX7_count_52 : decode cX7_count 52 = .ok (.getfield 100, 3) := by decide +kernel
theorem dX7_count_55 : decode cX7_count 55 = .ok (.ireturn, 1) := by decide +kernel
theorem dX7_count_56 : decode cX7_count 56 = .ok (.aload_n 0, 1) := by decide +kernel
theorem dX7_count_57 : decode cX7_count 57 = .ok (.getfield 19, 3) := by decide +kernel
theorem dX7_count_60 : decode cX7_count 60 = .ok (.getfield 368, 3) := by decide +kernel
theorem dX7_count_63 : decode cX7_count 63 = .ok (.ireturn, 1) := by decide +kernel
theorem dX7_count_64 : decode cX7_count 64 = .ok (.aload_n 0, 1) := by decide +kernel
theorem dX7_count_65 : decode cX7_count 65 = .ok (.getfield 47, 3) := by decide +kernel
theorem dX7_count_68 : decode cX7_count 68 = .ok (.getfield 298, 3) := by decide +kernel
theorem dX7_count_71 : decode cX7_count 71 = .ok (.ireturn, 1) := by decide +kernel
theorem dX7_count_72 : decode cX7_count 72 = .ok (.aload_n 0, 1) := by decide +kernel
theorem dX7_count_73 : decode cX7_count 73 = .ok (.getfield 61, 3) := by decide +kernel
theorem dX7_count_76 : decode cX7_count 76 = .ok (.getfield 371, 3) := by decide +kernel
theorem dX7_count_79 : decode cX7_count 79 = .ok (.ireturn, 1) := by decide +kernel
theorem dX7_count_80 : decode cX7_count 80 = .ok (.aload_n 0, 1) := by decide +kernel
theorem dX7_count_81 : decode cX7_count 81 = .ok (.getfield 61, 3) := by decide +kernel
theorem dX7_count_84 : decode cX7_count 84 = .ok (.getfield 374, 3) := by decide +kernel
theorem dX7_count_87 : decode cX7_count 87 = .ok (.ireturn, 1) := by decide +kernel
theorem dX7_count_88 : decode cX7_count 88 = .ok (.iconst (-1), 1) := by decide +kernel
theorem dX7_count_89 : decode cX7_count 89 = .ok (.ireturn, 1) := by decide +kernel
theorem dX7_isHouse_0 : decode cX7_isHouse 0 = .ok (.iload_n 0, 1) := by decide +kernel
theorem dX7_isHouse_1 : decode cX7_isHouse 1 = .ok (.ifCond .lt 13, 3) := by decide +kernel
theorem dX7_isHouse_4 : decode cX7_isHouse 4 = .ok (.iload_n 0, 1) := by decide +kernel
theorem dX7_isHouse_5 : decode cX7_isHouse 5 = .ok (.bipush 12, 2) := by decide +kernel
theorem dX7_isHouse_7 : decode cX7_isHouse 7 = .ok (.if_icmp .ge 7, 3) := by decide +kernel
theorem dX7_isHouse_10 : decode cX7_isHouse 10 = .ok (.iconst 1, 1) := by decide +kernel
theorem dX7_isHouse_11 : decode cX7_isHouse 11 = .ok (.goto 4, 3) := by decide +kernel
theorem dX7_isHouse_14 : decode cX7_isHouse 14 = .ok (.iconst 0, 1) := by decide +kernel
theorem dX7_isHouse_15 : decode cX7_isHouse 15 = .ok (.ireturn, 1) := by decide +kernel
theorem dX7_isCalls_0 : decode cX7_isCalls 0 = .ok (.iload_n 0, 1) := by decide +kernel
theorem dX7_isCalls_1 : decode cX7_isCalls 1 = .ok (.ifCond .lt 13, 3) := by decide +kernel
theorem dX7_isCalls_4 : decode cX7_isCalls 4 = .ok (.iload_n 0, 1) := by decide +kernel
theorem dX7_isCalls_5 : decode cX7_isCalls 5 = .ok (.bipush 40, 2) := by decide +kernel
theorem dX7_isCalls_7 : decode cX7_isCalls 7 = .ok (.if_icmp .gt 7, 3) := by decide +kernel
theorem dX7_isCalls_10 : decode cX7_isCalls 10 = .ok (.iconst 1, 1) := by decide +kernel
theorem dX7_isCalls_11 : decode cX7_isCalls 11 = .ok (.goto 4, 3) := by decide +kernel
theorem dX7_isCalls_14 : decode cX7_isCalls 14 = .ok (.iconst 0, 1) := by decide +kernel
theorem dX7_isCalls_15 : decode cX7_isCalls 15 = .ok (.ireturn, 1) := by decide +kernel
theorem dX7_areShelves_0 : decode cX7_areShelves 0 = .ok (.iload_n 1, 1) := by decide +kernel
theorem dX7_areShelves_1 : decode cX7_areShelves 1 = .ok (.ifCond .lt 35, 3) := by decide +kernel
theorem dX7_areShelves_4 : decode cX7_areShelves 4 = .ok (.aload_n 0, 1) := by decide +kernel
theorem dX7_areShelves_5 : decode cX7_areShelves 5 = .ok (.getfield 54, 3) := by decide +kernel
theorem dX7_areShelves_8 : decode cX7_areShelves 8 = .ok (.iload_n 1, 1) := by decide +kernel
theorem dX7_areShelves_9 : decode cX7_areShelves 9 = .ok (.bipush 10, 2) := by decide +kernel
theorem dX7_areShelves_11 : decode cX7_areShelves 11 = .ok (.idiv, 1) := by decide +kernel
theorem dX7_areShelves_12 : decode cX7_areShelves 12 = .ok (.invokevirtual 107, 3) := by decide +kernel
theorem dX7_areShelves_15 : decode cX7_areShelves 15 = .ok (.ifCond .eq 21, 3) := by decide +kernel
theorem dX7_areShelves_18 : decode cX7_areShelves 18 = .ok (.aload_n 0, 1) := by decide +kernel
theorem dX7_areShelves_19 : decode cX7_areShelves 19 = .ok (.getfield 54, 3) := by decide +kernel
theorem dX7_areShelves_22 : decode cX7_areShelves 22 = .ok (.iload_n 1, 1) := by decide +kernel
theorem dX7_areShelves_23 : decode cX7_areShelves 23 = .ok (.bipush 10, 2) := by decide +kernel
theorem dX7_areShelves_25 : decode cX7_areShelves 25 = .ok (.irem, 1) := by decide +kernel
theorem dX7_areShelves_26 : decode cX7_areShelves 26 = .ok (.invokevirtual 107, 3) := by decide +kernel
theorem dX7_areShelves_29 : decode cX7_areShelves 29 = .ok (.ifCond .eq 7, 3) := by decide +kernel
theorem dX7_areShelves_32 : decode cX7_areShelves 32 = .ok (.iconst 1, 1) := by decide +kernel
theorem dX7_areShelves_33 : decode cX7_areShelves 33 = .ok (.goto 4, 3) := by decide +kernel
theorem dX7_areShelves_36 : decode cX7_areShelves 36 = .ok (.iconst 0, 1) := by decide +kernel
theorem dX7_areShelves_37 : decode cX7_areShelves 37 = .ok (.ireturn, 1) := by decide +kernel
theorem dX7_paintedRefusal_0 : decode cX7_paintedRefusal 0 = .ok (.aload_n 0, 1) := by decide +kernel
theorem dX7_paintedRefusal_1 : decode cX7_paintedRefusal 1 = .ok (.getfield 54, 3) := by decide +kernel
theorem dX7_paintedRefusal_4 : decode cX7_paintedRefusal 4 = .ok (.iload_n 1, 1) := by decide +kernel
theorem dX7_paintedRefusal_5 : decode cX7_paintedRefusal 5 = .ok (.bipush 10, 2) := by decide +kernel
theorem dX7_paintedRefusal_7 : decode cX7_paintedRefusal 7 = .ok (.idiv, 1) := by decide +kernel
theorem dX7_paintedRefusal_8 : decode cX7_paintedRefusal 8 = .ok (.iconst 1, 1) := by decide +kernel
theorem dX7_paintedRefusal_9 : decode cX7_paintedRefusal 9 = .ok (.invokevirtual 163, 3) := by decide +kernel
theorem dX7_paintedRefusal_12 : decode cX7_paintedRefusal 12 = .ok (.istore_n 2, 1) := by decide +kernel
theorem dX7_paintedRefusal_13 : decode cX7_paintedRefusal 13 = .ok (.iload_n 2, 1) := by decide +kernel
theorem dX7_paintedRefusal_14 : decode cX7_paintedRefusal 14 = .ok (.ifCond .eq 7, 3) := by decide +kernel
theorem dX7_paintedRefusal_17 : decode cX7_paintedRefusal 17 = .ok (.iload_n 2, 1) := by decide +kernel
theorem dX7_paintedRefusal_18 : decode cX7_paintedRefusal 18 = .ok (.goto 15, 3) := by decide +kernel
theorem dX7_paintedRefusal_21 : decode cX7_paintedRefusal 21 = .ok (.aload_n 0, 1) := by decide +kernel
theorem dX7_paintedRefusal_22 : decode cX7_paintedRefusal 22 = .ok (.getfield 54, 3) := by decide +kernel
theorem dX7_paintedRefusal_25 : decode cX7_paintedRefusal 25 = .ok (.iload_n 1, 1) := by decide +kernel
theorem dX7_paintedRefusal_26 : decode cX7_paintedRefusal 26 = .ok (.bipush 10, 2) := by decide +kernel
theorem dX7_paintedRefusal_28 : decode cX7_paintedRefusal 28 = .ok (.irem, 1) := by decide +kernel
theorem dX7_paintedRefusal_29 : decode cX7_paintedRefusal 29 = .ok (.iconst 1, 1) := by decide +kernel
theorem dX7_paintedRefusal_30 : decode cX7_paintedRefusal 30 = .ok (.invokevirtual 163, 3) := by decide +kernel
theorem dX7_paintedRefusal_33 : decode cX7_paintedRefusal 33 = .ok (.ireturn, 1) := by decide +kernel
theorem dX7_placeRefusal_0 : decode cX7_placeRefusal 0 = .ok (.aload_n 0, 1) := by decide +kernel
theorem dX7_placeRefusal_1 : decode cX7_placeRefusal 1 = .ok (.getfield 54, 3) := by decide +kernel
theorem dX7_placeRefusal_4 : decode cX7_placeRefusal 4 = .ok (.iload_n 1, 1) := by decide +kernel
theorem dX7_placeRefusal_5 : decode cX7_placeRefusal 5 = .ok (.invokevirtual 107, 3) := by decide +kernel
theorem dX7_placeRefusal_8 : decode cX7_placeRefusal 8 = .ok (.ifCond .ne 5, 3) := by decide +kernel
theorem dX7_placeRefusal_11 : decode cX7_placeRefusal 11 = .ok (.iconst (-1), 1) := by decide +kernel
theorem dX7_placeRefusal_12 : decode cX7_placeRefusal 12 = .ok (.ireturn, 1) := by decide +kernel
theorem dX7_placeRefusal_13 : decode cX7_placeRefusal 13 = .ok (.aload_n 0, 1) := by decide +kernel
theorem dX7_placeRefusal_14 : decode cX7_placeRefusal 14 = .ok (.getfield 54, 3) := by decide +kernel
theorem dX7_placeRefusal_17 : decode cX7_placeRefusal 17 = .ok (.iload_n 1, 1) := by decide +kernel
theorem dX7_placeRefusal_18 : decode cX7_placeRefusal 18 = .ok (.invokevirtual 110, 3) := by decide +kernel
theorem dX7_placeRefusal_21 : decode cX7_placeRefusal 21 = .ok (.ifCond .eq 6, 3) := by decide +kernel
theorem dX7_placeRefusal_24 : decode cX7_placeRefusal 24 = .ok (.bipush (-11), 2) := by decide +kernel
theorem dX7_placeRefusal_26 : decode cX7_placeRefusal 26 = .ok (.ireturn, 1) := by decide +kernel
theorem dX7_placeRefusal_27 : decode cX7_placeRefusal 27 = .ok (.aload_n 0, 1) := by decide +kernel
theorem dX7_placeRefusal_28 : decode cX7_placeRefusal 28 = .ok (.getfield 54, 3) := by decide +kernel
theorem dX7_placeRefusal_31 : decode cX7_placeRefusal 31 = .ok (.iload_n 1, 1) := by decide +kernel
theorem dX7_placeRefusal_32 : decode cX7_placeRefusal 32 = .ok (.invokevirtual 356, 3) := by decide +kernel
theorem dX7_placeRefusal_35 : decode cX7_placeRefusal 35 = .ok (.ifCond .eq 6, 3) := by decide +kernel
theorem dX7_placeRefusal_38 : decode cX7_placeRefusal 38 = .ok (.bipush (-12), 2) := by decide +kernel
theorem dX7_placeRefusal_40 : decode cX7_placeRefusal 40 = .ok (.ireturn, 1) := by decide +kernel
theorem dX7_placeRefusal_41 : decode cX7_placeRefusal 41 = .ok (.aload_n 0, 1) := by decide +kernel
theorem dX7_placeRefusal_42 : decode cX7_placeRefusal 42 = .ok (.getfield 54, 3) := by decide +kernel
theorem dX7_placeRefusal_45 : decode cX7_placeRefusal 45 = .ok (.iload_n 1, 1) := by decide +kernel
theorem dX7_placeRefusal_46 : decode cX7_placeRefusal 46 = .ok (.iload_n 2, 1) := by decide +kernel
theorem dX7_placeRefusal_47 : decode cX7_placeRefusal 47 = .ok (.iconst 1, 1) := by decide +kernel
theorem dX7_placeRefusal_48 : decode cX7_placeRefusal 48 = .ok (.invokevirtual 117, 3) := by decide +kernel
theorem dX7_placeRefusal_51 : decode cX7_placeRefusal 51 = .ok (.ifCond .eq 7, 3) := by decide +kernel
theorem dX7_placeRefusal_54 : decode cX7_placeRefusal 54 = .ok (.iconst 0, 1) := by decide +kernel
theorem dX7_placeRefusal_55 : decode cX7_placeRefusal 55 = .ok (.goto 5, 3) := by decide +kernel
theorem dX7_placeRefusal_58 : decode cX7_placeRefusal 58 = .ok (.bipush (-13), 2) := by decide +kernel
theorem dX7_placeRefusal_60 : decode cX7_placeRefusal 60 = .ok (.ireturn, 1) := by decide +kernel
theorem dX7_isThere_0 : decode cX7_isThere 0 = .ok (.iload_n 2, 1) := by decide +kernel
theorem dX7_isThere_1 : decode cX7_isThere 1 = .ok (.tableswitch 84 0 8 #[51, 56, 56, 75, 75, 75, 65, 75, 75], 51) := by decide +kernel
theorem dX7_isThere_52 : decode cX7_isThere 52 = .ok (.iload_n 1, 1) := by decide +kernel
theorem dX7_isThere_53 : decode cX7_isThere 53 = .ok (.invokestatic 85, 3) := by decide +kernel
theorem dX7_isThere_56 : decode cX7_isThere 56 = .ok (.ireturn, 1) := by decide +kernel
theorem dX7_isThere_57 : decode cX7_isThere 57 = .ok (.aload_n 0, 1) := by decide +kernel
theorem dX7_isThere_58 : decode cX7_isThere 58 = .ok (.getfield 10, 3) := by decide +kernel
theorem dX7_isThere_61 : decode cX7_isThere 61 = .ok (.iload_n 1, 1) := by decide +kernel
theorem dX7_isThere_62 : decode cX7_isThere 62 = .ok (.invokevirtual 230, 3) := by decide +kernel
theorem dX7_isThere_65 : decode cX7_isThere 65 = .ok (.ireturn, 1) := by decide +kernel
theorem dX7_isThere_66 : decode cX7_isThere 66 = .ok (.iload_n 1, 1) := by decide +kernel
theorem dX7_isThere_67 : decode cX7_isThere 67 = .ok (.ifCond .ne 7, 3) := by decide +kernel
theorem dX7_isThere_70 : decode cX7_isThere 70 = .ok (.iconst 1, 1) := by decide +kernel
theorem dX7_isThere_71 : decode cX7_isThere 71 = .ok (.goto 4, 3) := by decide +kernel
theorem dX7_isThere_74 : decode cX7_isThere 74 = .ok (.iconst 0, 1) := by decide +kernel
theorem dX7_isThere_75 : decode cX7_isThere 75 = .ok (.ireturn, 1) := by decide +kernel
theorem dX7_isThere_76 : decode cX7_isThere 76 = .ok (.aload_n 0, 1) := by decide +kernel
theorem dX7_isThere_77 : decode cX7_isThere 77 = .ok (.getfield 10, 3) := by decide +kernel
theorem dX7_isThere_80 : decode cX7_isThere 80 = .ok (.iload_n 1, 1) := by decide +kernel
theorem dX7_isThere_81 : decode cX7_isThere 81 = .ok (.invokevirtual 153, 3) := by decide +kernel
theorem dX7_isThere_84 : decode cX7_isThere 84 = .ok (.ireturn, 1) := by decide +kernel
theorem dX7_isThere_85 : decode cX7_isThere 85 = .ok (.iconst 0, 1) := by decide +kernel
theorem dX7_isThere_86 : decode cX7_isThere 86 = .ok (.ireturn, 1) := by decide +kernel
theorem dX7_valueOf_0 : decode cX7_valueOf 0 = .ok (.iload_n 2, 1) := by decide +kernel
theorem dX7_valueOf_1 : decode cX7_valueOf 1 = .ok (.tableswitch 132 0 7 #[47, 57, 67, 77, 87, 97, 114, 122], 47) := by decide +kernel
theorem dX7_valueOf_48 : decode cX7_valueOf 48 = .ok (.aload_n 0, 1) := by decide +kernel
theorem dX7_valueOf_49 : decode cX7_valueOf 49 = .ok (.getfield 26, 3) := by decide +kernel
theorem dX7_valueOf_52 : decode cX7_valueOf 52 = .ok (.getfield 169, 3) := by decide +kernel
theorem dX7_valueOf_55 : decode cX7_valueOf 55 = .ok (.iload_n 1, 1) := by decide +kernel
theorem dX7_valueOf_56 : decode cX7_valueOf 56 = .ok (.iaload, 1) := by decide +kernel
theorem dX7_valueOf_57 : decode cX7_valueOf 57 = .ok (.ireturn, 1) := by decide +kernel
theorem dX7_valueOf_58 : decode cX7_valueOf 58 = .ok (.aload_n 0, 1) := by decide +kernel
theorem dX7_valueOf_59 : decode cX7_valueOf 59 = .ok (.getfield 10, 3) := by decide +kernel
theorem dX7_valueOf_62 : decode cX7_valueOf 62 = .ok (.getfield 200, 3) := by decide +kernel
theorem dX7_valueOf_65 : decode cX7_valueOf 65 = .ok (.iload_n 1, 1) := by decide +kernel
theorem dX7_valueOf_66 : decode cX7_valueOf 66 = .ok (.iaload, 1) := by decide +kernel
theorem dX7_valueOf_67 : decode cX7_valueOf 67 = .ok (.ireturn, 1) := by decide +kernel
theorem dX7_valueOf_68 : decode cX7_valueOf 68 = .ok (.aload_n 0, 1) := by decide +kernel
theorem dX7_valueOf_69 : decode cX7_valueOf 69 = .ok (.getfield 10, 3) := by decide +kernel
theorem dX7_valueOf_72 : decode cX7_valueOf 72 = .ok (.getfield 236, 3) := by decide +kernel
theorem dX7_valueOf_75 : decode cX7_valueOf 75 = .ok (.iload_n 1, 1) := by decide +kernel
theorem dX7_valueOf_76 : decode cX7_valueOf 76 = .ok (.iaload, 1) := by decide +kernel
theorem dX7_valueOf_77 : decode cX7_valueOf 77 = .ok (.ireturn, 1) := by decide +kernel
theorem dX7_valueOf_78 : decode cX7_valueOf 78 = .ok (.aload_n 0, 1) := by decide +kernel
theorem dX7_valueOf_79 : decode cX7_valueOf 79 = .ok (.getfield 10, 3) := by decide +kernel
theorem dX7_valueOf_82 : decode cX7_valueOf 82 = .ok (.getfield 248, 3) := by decide +kernel
theorem dX7_valueOf_85 : decode cX7_valueOf 85 = .ok (.iload_n 1, 1) := by decide +kernel
theorem dX7_valueOf_86 : decode cX7_valueOf 86 = .ok (.iaload, 1) := by decide +kernel
theorem dX7_valueOf_87 : decode cX7_valueOf 87 = .ok (.ireturn, 1) := by decide +kernel
theorem dX7_valueOf_88 : decode cX7_valueOf 88 = .ok (.aload_n 0, 1) := by decide +kernel
theorem dX7_valueOf_89 : decode cX7_valueOf 89 = .ok (.getfield 26, 3) := by decide +kernel
theorem dX7_valueOf_92 : decode cX7_valueOf 92 = .ok (.getfield 263, 3) := by decide +kernel
theorem dX7_valueOf_95 : decode cX7_valueOf 95 = .ok (.iload_n 1, 1) := by decide +kernel
theorem dX7_valueOf_96 : decode cX7_valueOf 96 = .ok (.iaload, 1) := by decide +kernel
theorem dX7_valueOf_97 : decode cX7_valueOf 97 = .ok (.ireturn, 1) := by decide +kernel
theorem dX7_valueOf_98 : decode cX7_valueOf 98 = .ok (.aload_n 0, 1) := by decide +kernel
theorem dX7_valueOf_99 : decode cX7_valueOf 99 = .ok (.getfield 26, 3) := by decide +kernel
theorem dX7_valueOf_102 : decode cX7_valueOf 102 = .ok (.iload_n 1, 1) := by decide +kernel
theorem dX7_valueOf_103 : decode cX7_valueOf 103 = .ok (.invokevirtual 197, 3) := by decide +kernel
theorem dX7_valueOf_106 : decode cX7_valueOf 106 = .ok (.ifCond .eq 7, 3) := by decide +kernel
theorem dX7_valueOf_109 : decode cX7_valueOf 109 = .ok (.iconst 1, 1) := by decide +kernel
theorem dX7_valueOf_110 : decode cX7_valueOf 110 = .ok (.goto 4, 3) := by decide +kernel
theorem dX7_valueOf_113 : decode cX7_valueOf 113 = .ok (.iconst 0, 1) := by decide +kernel
theorem dX7_valueOf_114 : decode cX7_valueOf 114 = .ok (.ireturn, 1) := by decide +kernel
theorem dX7_valueOf_115 : decode cX7_valueOf 115 = .ok (.aload_n 0, 1) := by decide +kernel
theorem dX7_valueOf_116 : decode cX7_valueOf 116 = .ok (.getfield 26, 3) := by decide +kernel
theorem dX7_valueOf_119 : decode cX7_valueOf 119 = .ok (.getfield 272, 3) := by decide +kernel
theorem dX7_valueOf_122 : decode cX7_valueOf 122 = .ok (.ireturn, 1) := by decide +kernel
theorem dX7_valueOf_123 : decode cX7_valueOf 123 = .ok (.aload_n 0, 1) := by decide +kernel
theorem dX7_valueOf_124 : decode cX7_valueOf 124 = .ok (.getfield 10, 3) := by decide +kernel
theorem dX7_valueOf_127 : decode cX7_valueOf 127 = .ok (.getfield 206, 3) := by decide +kernel
theorem dX7_valueOf_130 : decode cX7_valueOf 130 = .ok (.iload_n 1, 1) := by decide +kernel
theorem dX7_valueOf_131 : decode cX7_valueOf 131 = .ok (.iaload, 1) := by decide +kernel
theorem dX7_valueOf_132 : decode cX7_valueOf 132 = .ok (.ireturn, 1) := by decide +kernel
theorem dX7_valueOf_133 : decode cX7_valueOf 133 = .ok (.aload_n 0, 1) := by decide +kernel
theorem dX7_valueOf_134 : decode cX7_valueOf 134 = .ok (.getfield 10, 3) := by decide +kernel
theorem dX7_valueOf_137 : decode cX7_valueOf 137 = .ok (.getfield 203, 3) := by decide +kernel
theorem dX7_valueOf_140 : decode cX7_valueOf 140 = .ok (.iload_n 1, 1) := by decide +kernel
theorem dX7_valueOf_141 : decode cX7_valueOf 141 = .ok (.iaload, 1) := by decide +kernel
theorem dX7_valueOf_142 : decode cX7_valueOf 142 = .ok (.ireturn, 1) := by decide +kernel
theorem dX7_setValue_0 : decode cX7_setValue 0 = .ok (.iload_n 2, 1) := by decide +kernel
theorem dX7_setValue_1 : decode cX7_setValue 1 = .ok (.tableswitch 124 0 5 #[39, 52, 65, 78, 91, 104], 39) := by decide +kernel
theorem dX7_setValue_40 : decode cX7_setValue 40 = .ok (.aload_n 0, 1) := by decide +kernel
theorem dX7_setValue_41 : decode cX7_setValue 41 = .ok (.getfield 26, 3) := by decide +kernel
theorem dX7_setValue_44 : decode cX7_setValue 44 = .ok (.getfield 169, 3) := by decide +kernel
theorem dX7_setValue_47 : decode cX7_setValue 47 = .ok (.iload_n 1, 1) := by decide +kernel
theorem dX7_setValue_48 : decode cX7_setValue 48 = .ok (.iload_n 3, 1) := by decide +kernel
theorem dX7_setValue_49 : decode cX7_setValue 49 = .ok (.iastore, 1) := by decide +kernel
theorem dX7_setValue_50 : decode cX7_setValue 50 = .ok (.goto 83, 3) := by decide +kernel
theorem dX7_setValue_53 : decode cX7_setValue 53 = .ok (.aload_n 0, 1) := by decide +kernel
theorem dX7_setValue_54 : decode cX7_setValue 54 = .ok (.getfield 10, 3) := by decide +kernel
theorem dX7_setValue_57 : decode cX7_setValue 57 = .ok (.getfield 200, 3) := by decide +kernel
theorem dX7_setValue_60 : decode cX7_setValue 60 = .ok (.iload_n 1, 1) := by decide +kernel
theorem dX7_setValue_61 : decode cX7_setValue 61 = .ok (.iload_n 3, 1) := by decide +kernel
theorem dX7_setValue_62 : decode cX7_setValue 62 = .ok (.iastore, 1) := by decide +kernel
theorem dX7_setValue_63 : decode cX7_setValue 63 = .ok (.goto 70, 3) := by decide +kernel
theorem dX7_setValue_66 : decode cX7_setValue 66 = .ok (.aload_n 0, 1) := by decide +kernel
theorem dX7_setValue_67 : decode cX7_setValue 67 = .ok (.getfield 10, 3) := by decide +kernel
theorem dX7_setValue_70 : decode cX7_setValue 70 = .ok (.getfield 236, 3) := by decide +kernel
theorem dX7_setValue_73 : decode cX7_setValue 73 = .ok (.iload_n 1, 1) := by decide +kernel
theorem dX7_setValue_74 : decode cX7_setValue 74 = .ok (.iload_n 3, 1) := by decide +kernel
theorem dX7_setValue_75 : decode cX7_setValue 75 = .ok (.iastore, 1) := by decide +kernel
theorem dX7_setValue_76 : decode cX7_setValue 76 = .ok (.goto 57, 3) := by decide +kernel
theorem dX7_setValue_79 : decode cX7_setValue 79 = .ok (.aload_n 0, 1) := by decide +kernel
theorem dX7_setValue_80 : decode cX7_setValue 80 = .ok (.getfield 10, 3) := by decide +kernel
theorem dX7_setValue_83 : decode cX7_setValue 83 = .ok (.getfield 248, 3) := by decide +kernel
theorem dX7_setValue_86 : decode cX7_setValue 86 = .ok (.iload_n 1, 1) := by decide +kernel
theorem dX7_setValue_87 : decode cX7_setValue 87 = .ok (.iload_n 3, 1) := by decide +kernel
theorem dX7_setValue_88 : decode cX7_setValue 88 = .ok (.iastore, 1) := by decide +kernel
theorem dX7_setValue_89 : decode cX7_setValue 89 = .ok (.goto 44, 3) := by decide +kernel
theorem dX7_setValue_92 : decode cX7_setValue 92 = .ok (.aload_n 0, 1) := by decide +kernel
theorem dX7_setValue_93 : decode cX7_setValue 93 = .ok (.getfield 26, 3) := by decide +kernel
theorem dX7_setValue_96 : decode cX7_setValue 96 = .ok (.getfield 263, 3) := by decide +kernel
theorem dX7_setValue_99 : decode cX7_setValue 99 = .ok (.iload_n 1, 1) := by decide +kernel
theorem dX7_setValue_100 : decode cX7_setValue 100 = .ok (.iload_n 3, 1) := by decide +kernel
theorem dX7_setValue_101 : decode cX7_setValue 101 = .ok (.iastore, 1) := by decide +kernel
theorem dX7_setValue_102 : decode cX7_setValue 102 = .ok (.goto 31, 3) := by decide +kernel
theorem dX7_setValue_105 : decode cX7_setValue 105 = .ok (.aload_n 0, 1) := by decide +kernel
theorem dX7_setValue_106 : decode cX7_setValue 106 = .ok (.getfield 26, 3) := by decide +kernel
theorem dX7_setValue_109 : decode cX7_setValue 109 = .ok (.iload_n 1, 1) := by decide +kernel
theorem dX7_setValue_110 : decode cX7_setValue 110 = .ok (.iload_n 3, 1) := by decide +kernel
theorem dX7_setValue_111 : decode cX7_setValue 111 = .ok (.ifCond .eq 7, 3) := by decide +kernel
theorem dX7_setValue_114 : decode cX7_setValue 114 = .ok (.iconst 1, 1) := by decide +kernel
theorem dX7_setValue_115 : decode cX7_setValue 115 = .ok (.goto 4, 3) := by decide +kernel
theorem dX7_setValue_118 : decode cX7_setValue 118 = .ok (.iconst 0, 1) := by decide +kernel
theorem dX7_setValue_119 : decode cX7_setValue 119 = .ok (.invokevirtual 377, 3) := by decide +kernel
theorem dX7_setValue_122 : decode cX7_setValue 122 = .ok (.goto 11, 3) := by decide +kernel
theorem dX7_setValue_125 : decode cX7_setValue 125 = .ok (.aload_n 0, 1) := by decide +kernel
theorem dX7_setValue_126 : decode cX7_setValue 126 = .ok (.getfield 26, 3) := by decide +kernel
theorem dX7_setValue_129 : decode cX7_setValue 129 = .ok (.iload_n 3, 1) := by decide +kernel
theorem dX7_setValue_130 : decode cX7_setValue 130 = .ok (.putfield 272, 3) := by decide +kernel
theorem dX7_setValue_133 : decode cX7_setValue 133 = .ok (.return_, 1) := by decide +kernel
theorem dX7_addWrong_0 : decode cX7_addWrong 0 = .ok (.aload_n 0, 1) := by decide +kernel
theorem dX7_addWrong_1 : decode cX7_addWrong 1 = .ok (.getfield 10, 3) := by decide +kernel
theorem dX7_addWrong_4 : decode cX7_addWrong 4 = .ok (.iload_n 1, 1) := by decide +kernel
theorem dX7_addWrong_5 : decode cX7_addWrong 5 = .ok (.iload_n 2, 1) := by decide +kernel
theorem dX7_addWrong_6 : decode cX7_addWrong 6 = .ok (.iload_n 3, 1) := by decide +kernel
theorem dX7_addWrong_7 : decode cX7_addWrong 7 = .ok (.invokevirtual 381, 3) := by decide +kernel
theorem dX7_addWrong_10 : decode cX7_addWrong 10 = .ok (.istore 4, 2) := by decide +kernel
theorem dX7_addWrong_12 : decode cX7_addWrong 12 = .ok (.aload_n 0, 1) := by decide +kernel
theorem dX7_addWrong_13 : decode cX7_addWrong 13 = .ok (.getfield 26, 3) := by decide +kernel
theorem dX7_addWrong_16 : decode cX7_addWrong 16 = .ok (.getfield 263, 3) := by decide +kernel
theorem dX7_addWrong_19 : decode cX7_addWrong 19 = .ok (.iload 4, 2) := by decide +kernel
theorem dX7_addWrong_21 : decode cX7_addWrong 21 = .ok (.aload_n 0, 1) := by decide +kernel
theorem dX7_addWrong_22 : decode cX7_addWrong 22 = .ok (.getfield 26, 3) := by decide +kernel
theorem dX7_addWrong_25 : decode cX7_addWrong 25 = .ok (.getfield 272, 3) := by decide +kernel
theorem dX7_addWrong_28 : decode cX7_addWrong 28 = .ok (.iastore, 1) := by decide +kernel
theorem dX7_addWrong_29 : decode cX7_addWrong 29 = .ok (.iload 4, 2) := by decide +kernel
theorem dX7_addWrong_31 : decode cX7_addWrong 31 = .ok (.ireturn, 1) := by decide +kernel
theorem dX7_worth_0 : decode cX7_worth 0 = .ok (.aload_n 0, 1) := by decide +kernel
theorem dX7_worth_1 : decode cX7_worth 1 = .ok (.getfield 10, 3) := by decide +kernel
theorem dX7_worth_4 : decode cX7_worth 4 = .ok (.getfield 203, 3) := by decide +kernel
theorem dX7_worth_7 : decode cX7_worth 7 = .ok (.iload_n 2, 1) := by decide +kernel
theorem dX7_worth_8 : decode cX7_worth 8 = .ok (.iaload, 1) := by decide +kernel
theorem dX7_worth_9 : decode cX7_worth 9 = .ok (.istore 4, 2) := by decide +kernel
theorem dX7_worth_11 : decode cX7_worth 11 = .ok (.iconst 0, 1) := by decide +kernel
theorem dX7_worth_12 : decode cX7_worth 12 = .ok (.aload_n 1, 1) := by decide +kernel
theorem dX7_worth_13 : decode cX7_worth 13 = .ok (.getfield 272, 3) := by decide +kernel
theorem dX7_worth_16 : decode cX7_worth 16 = .ok (.aload_n 1, 1) := by decide +kernel
theorem dX7_worth_17 : decode cX7_worth 17 = .ok (.getfield 263, 3) := by decide +kernel
theorem dX7_worth_20 : decode cX7_worth 20 = .ok (.iload_n 2, 1) := by decide +kernel
theorem dX7_worth_21 : decode cX7_worth 21 = .ok (.iaload, 1) := by decide +kernel
theorem dX7_worth_22 : decode cX7_worth 22 = .ok (.isub, 1) := by decide +kernel
theorem dX7_worth_23 : decode cX7_worth 23 = .ok (.invokestatic 275, 3) := by decide +kernel
theorem dX7_worth_26 : decode cX7_worth 26 = .ok (.istore 5, 2) := by decide +kernel
theorem dX7_worth_28 : decode cX7_worth 28 = .ok (.aload_n 0, 1) := by decide +kernel
theorem dX7_worth_29 : decode cX7_worth 29 = .ok (.getfield 10, 3) := by decide +kernel
theorem dX7_worth_32 : decode cX7_worth 32 = .ok (.getfield 200, 3) := by decide +kernel
theorem dX7_worth_35 : decode cX7_worth 35 = .ok (.iload 4, 2) := by decide +kernel
theorem dX7_worth_37 : decode cX7_worth 37 = .ok (.iaload, 1) := by decide +kernel
theorem dX7_worth_38 : decode cX7_worth 38 = .ok (.iload_n 3, 1) := by decide +kernel
theorem dX7_worth_39 : decode cX7_worth 39 = .ok (.if_icmp .ne 7, 3) := by decide +kernel
theorem dX7_worth_42 : decode cX7_worth 42 = .ok (.iconst 1, 1) := by decide +kernel
theorem dX7_worth_43 : decode cX7_worth 43 = .ok (.goto 4, 3) := by decide +kernel
theorem dX7_worth_46 : decode cX7_worth 46 = .ok (.iconst 0, 1) := by decide +kernel
theorem dX7_worth_47 : decode cX7_worth 47 = .ok (.istore 6, 2) := by decide +kernel
theorem dX7_worth_49 : decode cX7_worth 49 = .ok (.aload_n 0, 1) := by decide +kernel
theorem dX7_worth_50 : decode cX7_worth 50 = .ok (.getfield 19, 3) := by decide +kernel
theorem dX7_worth_53 : decode cX7_worth 53 = .ok (.aload_n 0, 1) := by decide +kernel
theorem dX7_worth_54 : decode cX7_worth 54 = .ok (.getfield 10, 3) := by decide +kernel
theorem dX7_worth_57 : decode cX7_worth 57 = .ok (.getfield 248, 3) := by decide +kernel
theorem dX7_worth_60 : decode cX7_worth 60 = .ok (.iload_n 2, 1) := by decide +kernel
theorem dX7_worth_61 : decode cX7_worth 61 = .ok (.iaload, 1) := by decide +kernel
theorem dX7_worth_62 : decode cX7_worth 62 = .ok (.iload 5, 2) := by decide +kernel
theorem dX7_worth_64 : decode cX7_worth 64 = .ok (.aload_n 0, 1) := by decide +kernel
theorem dX7_worth_65 : decode cX7_worth 65 = .ok (.getfield 10, 3) := by decide +kernel
theorem dX7_worth_68 : decode cX7_worth 68 = .ok (.getfield 236, 3) := by decide +kernel
theorem dX7_worth_71 : decode cX7_worth 71 = .ok (.iload 4, 2) := by decide +kernel
theorem dX7_worth_73 : decode cX7_worth 73 = .ok (.iaload, 1) := by decide +kernel
theorem dX7_worth_74 : decode cX7_worth 74 = .ok (.aload_n 0, 1) := by decide +kernel
theorem dX7_worth_75 : decode cX7_worth 75 = .ok (.getfield 10, 3) := by decide +kernel
theorem dX7_worth_78 : decode cX7_worth 78 = .ok (.iload_n 2, 1) := by decide +kernel
theorem dX7_worth_79 : decode cX7_worth 79 = .ok (.iload_n 3, 1) := by decide +kernel
theorem dX7_worth_80 : decode cX7_worth 80 = .ok (.invokevirtual 384, 3) := by decide +kernel
theorem dX7_worth_83 : decode cX7_worth 83 = .ok (.aload_n 1, 1) := by decide +kernel
theorem dX7_worth_84 : decode cX7_worth 84 = .ok (.getfield 169, 3) := by decide +kernel
theorem dX7_worth_87 : decode cX7_worth 87 = .ok (.iload_n 3, 1) := by decide +kernel
theorem dX7_worth_88 : decode cX7_worth 88 = .ok (.iaload, 1) := by decide +kernel
theorem dX7_worth_89 : decode cX7_worth 89 = .ok (.iload 6, 2) := by decide +kernel
theorem dX7_worth_91 : decode cX7_worth 91 = .ok (.invokevirtual 387, 3) := by decide +kernel
theorem dX7_worth_94 : decode cX7_worth 94 = .ok (.aload_n 0, 1) := by decide +kernel
theorem dX7_worth_95 : decode cX7_worth 95 = .ok (.getfield 19, 3) := by decide +kernel
theorem dX7_worth_98 : decode cX7_worth 98 = .ok (.invokevirtual 391, 3) := by decide +kernel
theorem dX7_worth_101 : decode cX7_worth 101 = .ok (.ireturn, 1) := by decide +kernel
theorem dX7_forgive_0 : decode cX7_forgive 0 = .ok (.aload_n 1, 1) := by decide +kernel
theorem dX7_forgive_1 : decode cX7_forgive 1 = .ok (.iload_n 2, 1) := by decide +kernel
theorem dX7_forgive_2 : decode cX7_forgive 2 = .ok (.invokevirtual 197, 3) := by decide +kernel
theorem dX7_forgive_5 : decode cX7_forgive 5 = .ok (.ifCond .eq 5, 3) := by decide +kernel
theorem dX7_forgive_8 : decode cX7_forgive 8 = .ok (.iconst 0, 1) := by decide +kernel
theorem dX7_forgive_9 : decode cX7_forgive 9 = .ok (.ireturn, 1) := by decide +kernel
theorem dX7_forgive_10 : decode cX7_forgive 10 = .ok (.aload_n 0, 1) := by decide +kernel
theorem dX7_forgive_11 : decode cX7_forgive 11 = .ok (.aload_n 1, 1) := by decide +kernel
theorem dX7_forgive_12 : decode cX7_forgive 12 = .ok (.iload_n 2, 1) := by decide +kernel
theorem dX7_forgive_13 : decode cX7_forgive 13 = .ok (.iload_n 3, 1) := by decide +kernel
theorem dX7_forgive_14 : decode cX7_forgive 14 = .ok (.invokevirtual 156, 3) := by decide +kernel
theorem dX7_forgive_17 : decode cX7_forgive 17 = .ok (.istore 4, 2) := by decide +kernel
theorem dX7_forgive_19 : decode cX7_forgive 19 = .ok (.iload 4, 2) := by decide +kernel
theorem dX7_forgive_21 : decode cX7_forgive 21 = .ok (.ifCond .ne 5, 3) := by decide +kernel
theorem dX7_forgive_24 : decode cX7_forgive 24 = .ok (.iconst 0, 1) := by decide +kernel
theorem dX7_forgive_25 : decode cX7_forgive 25 = .ok (.ireturn, 1) := by decide +kernel
theorem dX7_forgive_26 : decode cX7_forgive 26 = .ok (.aload_n 1, 1) := by decide +kernel
theorem dX7_forgive_27 : decode cX7_forgive 27 = .ok (.iload_n 2, 1) := by decide +kernel
theorem dX7_forgive_28 : decode cX7_forgive 28 = .ok (.iconst 1, 1) := by decide +kernel
theorem dX7_forgive_29 : decode cX7_forgive 29 = .ok (.invokevirtual 377, 3) := by decide +kernel
theorem dX7_forgive_32 : decode cX7_forgive 32 = .ok (.aload_n 1, 1) := by decide +kernel
theorem dX7_forgive_33 : decode cX7_forgive 33 = .ok (.getfield 169, 3) := by decide +kernel
theorem dX7_forgive_36 : decode cX7_forgive 36 = .ok (.iload_n 3, 1) := by decide +kernel
theorem dX7_forgive_37 : decode cX7_forgive 37 = .ok (.sipush 999, 3) := by decide +kernel
theorem dX7_forgive_40 : decode cX7_forgive 40 = .ok (.aload_n 1, 1) := by decide +kernel
theorem dX7_forgive_41 : decode cX7_forgive 41 = .ok (.getfield 169, 3) := by decide +kernel
theorem dX7_forgive_44 : decode cX7_forgive 44 = .ok (.iload_n 3, 1) := by decide +kernel
theorem dX7_forgive_45 : decode cX7_forgive 45 = .ok (.iaload, 1) := by decide +kernel
theorem dX7_forgive_46 : decode cX7_forgive 46 = .ok (.iload 4, 2) := by decide +kernel
theorem dX7_forgive_48 : decode cX7_forgive 48 = .ok (.iadd, 1) := by decide +kernel
theorem dX7_forgive_49 : decode cX7_forgive 49 = .ok (.invokestatic 393, 3) := by decide +kernel
theorem dX7_forgive_52 : decode cX7_forgive 52 = .ok (.iastore, 1) := by decide +kernel
theorem dX7_forgive_53 : decode cX7_forgive 53 = .ok (.iload 4, 2) := by decide +kernel
theorem dX7_forgive_55 : decode cX7_forgive 55 = .ok (.ireturn, 1) := by decide +kernel
theorem dX7_callsOn_0 : decode cX7_callsOn 0 = .ok (.bipush 40, 2) := by decide +kernel
theorem dX7_callsOn_2 : decode cX7_callsOn 2 = .ok (.aload_n 0, 1) := by decide +kernel
theorem dX7_callsOn_3 : decode cX7_callsOn 3 = .ok (.getfield 54, 3) := by decide +kernel
theorem dX7_callsOn_6 : decode cX7_callsOn 6 = .ok (.iload_n 1, 1) := by decide +kernel
theorem dX7_callsOn_7 : decode cX7_callsOn 7 = .ok (.invokevirtual 396, 3) := by decide +kernel
theorem dX7_callsOn_10 : decode cX7_callsOn 10 = .ok (.invokestatic 393, 3) := by decide +kernel
theorem dX7_callsOn_13 : decode cX7_callsOn 13 = .ok (.istore_n 2, 1) := by decide +kernel
theorem dX7_callsOn_14 : decode cX7_callsOn 14 = .ok (.iconst 0, 1) := by decide +kernel
theorem dX7_callsOn_15 : decode cX7_callsOn 15 = .ok (.istore_n 3, 1) := by decide +kernel
theorem dX7_callsOn_16 : decode cX7_callsOn 16 = .ok (.iload_n 3, 1) := by decide +kernel
theorem dX7_callsOn_17 : decode cX7_callsOn 17 = .ok (.iload_n 2, 1) := by decide +kernel
theorem dX7_callsOn_18 : decode cX7_callsOn 18 = .ok (.if_icmp .ge 43, 3) := by decide +kernel
theorem dX7_callsOn_21 : decode cX7_callsOn 21 = .ok (.aload_n 0, 1) := by decide +kernel
theorem dX7_callsOn_22 : decode cX7_callsOn 22 = .ok (.getfield 54, 3) := by decide +kernel
theorem dX7_callsOn_25 : decode cX7_callsOn 25 = .ok (.iload_n 1, 1) := by decide +kernel
theorem dX7_callsOn_26 : decode cX7_callsOn 26 = .ok (.iload_n 3, 1) := by decide +kernel
theorem dX7_callsOn_27 : decode cX7_callsOn 27 = .ok (.invokevirtual 120, 3) := by decide +kernel
theorem dX7_callsOn_30 : decode cX7_callsOn 30 = .ok (.l2i, 1) := by decide +kernel
theorem dX7_callsOn_31 : decode cX7_callsOn 31 = .ok (.istore 4, 2) := by decide +kernel
theorem dX7_callsOn_33 : decode cX7_callsOn 33 = .ok (.iload 4, 2) := by decide +kernel
theorem dX7_callsOn_35 : decode cX7_callsOn 35 = .ok (.ifCond .lt 18, 3) := by decide +kernel
theorem dX7_callsOn_38 : decode cX7_callsOn 38 = .ok (.iload 4, 2) := by decide +kernel
theorem dX7_callsOn_40 : decode cX7_callsOn 40 = .ok (.bipush 12, 2) := by decide +kernel
theorem dX7_callsOn_42 : decode cX7_callsOn 42 = .ok (.idiv, 1) := by decide +kernel
theorem dX7_callsOn_43 : decode cX7_callsOn 43 = .ok (.aload_n 0, 1) := by decide +kernel
theorem dX7_callsOn_44 : decode cX7_callsOn 44 = .ok (.getfield 10, 3) := by decide +kernel
theorem dX7_callsOn_47 : decode cX7_callsOn 47 = .ok (.getfield 100, 3) := by decide +kernel
theorem dX7_callsOn_50 : decode cX7_callsOn 50 = .ok (.if_icmp .lt 5, 3) := by decide +kernel
theorem dX7_callsOn_53 : decode cX7_callsOn 53 = .ok (.iload_n 3, 1) := by decide +kernel
theorem dX7_callsOn_54 : decode cX7_callsOn 54 = .ok (.ireturn, 1) := by decide +kernel
theorem dX7_callsOn_55 : decode cX7_callsOn 55 = .ok (.iinc 3 1, 3) := by decide +kernel
theorem dX7_callsOn_58 : decode cX7_callsOn 58 = .ok (.goto (-42), 3) := by decide +kernel
theorem dX7_callsOn_61 : decode cX7_callsOn 61 = .ok (.iload_n 2, 1) := by decide +kernel
theorem dX7_callsOn_62 : decode cX7_callsOn 62 = .ok (.ireturn, 1) := by decide +kernel
theorem dX7_callOf_0 : decode cX7_callOf 0 = .ok (.aload_n 0, 1) := by decide +kernel
theorem dX7_callOf_1 : decode cX7_callOf 1 = .ok (.getfield 54, 3) := by decide +kernel
theorem dX7_callOf_4 : decode cX7_callOf 4 = .ok (.iload_n 1, 1) := by decide +kernel
theorem dX7_callOf_5 : decode cX7_callOf 5 = .ok (.iload_n 2, 1) := by decide +kernel
theorem dX7_callOf_6 : decode cX7_callOf 6 = .ok (.invokevirtual 120, 3) := by decide +kernel
theorem dX7_callOf_9 : decode cX7_callOf 9 = .ok (.l2i, 1) := by decide +kernel
theorem dX7_callOf_10 : decode cX7_callOf 10 = .ok (.istore_n 3, 1) := by decide +kernel
theorem dX7_callOf_11 : decode cX7_callOf 11 = .ok (.aload_n 0, 1) := by decide +kernel
theorem dX7_callOf_12 : decode cX7_callOf 12 = .ok (.aload_n 0, 1) := by decide +kernel
theorem dX7_callOf_13 : decode cX7_callOf 13 = .ok (.getfield 30, 3) := by decide +kernel
theorem dX7_callOf_16 : decode cX7_callOf 16 = .ok (.iload_n 3, 1) := by decide +kernel
theorem dX7_callOf_17 : decode cX7_callOf 17 = .ok (.bipush 12, 2) := by decide +kernel
theorem dX7_callOf_19 : decode cX7_callOf 19 = .ok (.idiv, 1) := by decide +kernel
theorem dX7_callOf_20 : decode cX7_callOf 20 = .ok (.iload_n 3, 1) := by decide +kernel
theorem dX7_callOf_21 : decode cX7_callOf 21 = .ok (.bipush 12, 2) := by decide +kernel
theorem dX7_callOf_23 : decode cX7_callOf 23 = .ok (.irem, 1) := by decide +kernel
theorem dX7_callOf_24 : decode cX7_callOf 24 = .ok (.invokevirtual 191, 3) := by decide +kernel
theorem dX7_callOf_27 : decode cX7_callOf 27 = .ok (.ireturn, 1) := by decide +kernel
theorem dX7_think_0 : decode cX7_think 0 = .ok (.aload_n 0, 1) := by decide +kernel
theorem dX7_think_1 : decode cX7_think 1 = .ok (.getfield 30, 3) := by decide +kernel
theorem dX7_think_4 : decode cX7_think 4 = .ok (.aload_n 0, 1) := by decide +kernel
theorem dX7_think_5 : decode cX7_think 5 = .ok (.getfield 26, 3) := by decide +kernel
theorem dX7_think_8 : decode cX7_think 8 = .ok (.invokevirtual 187, 3) := by decide +kernel
theorem dX7_think_11 : decode cX7_think 11 = .ok (.iload_n 2, 1) := by decide +kernel
theorem dX7_think_12 : decode cX7_think 12 = .ok (.aload_n 0, 1) := by decide +kernel
theorem dX7_think_13 : decode cX7_think 13 = .ok (.iload_n 1, 1) := by decide +kernel
theorem dX7_think_14 : decode cX7_think 14 = .ok (.invokevirtual 399, 3) := by decide +kernel
theorem dX7_think_17 : decode cX7_think 17 = .ok (.invokestatic 393, 3) := by decide +kernel
theorem dX7_think_20 : decode cX7_think 20 = .ok (.istore_n 3, 1) := by decide +kernel
theorem dX7_think_21 : decode cX7_think 21 = .ok (.bipush (-2), 2) := by decide +kernel
theorem dX7_think_23 : decode cX7_think 23 = .ok (.istore 4, 2) := by decide +kernel
theorem dX7_think_25 : decode cX7_think 25 = .ok (.iconst 0, 1) := by decide +kernel
theorem dX7_think_26 : decode cX7_think 26 = .ok (.istore 5, 2) := by decide +kernel
theorem dX7_think_28 : decode cX7_think 28 = .ok (.iload 5, 2) := by decide +kernel
theorem dX7_think_30 : decode cX7_think 30 = .ok (.iload_n 3, 1) := by decide +kernel
theorem dX7_think_31 : decode cX7_think 31 = .ok (.if_icmp .ge 34, 3) := by decide +kernel
theorem dX7_think_34 : decode cX7_think 34 = .ok (.aload_n 0, 1) := by decide +kernel
theorem dX7_think_35 : decode cX7_think 35 = .ok (.iload_n 1, 1) := by decide +kernel
theorem dX7_think_36 : decode cX7_think 36 = .ok (.iload 5, 2) := by decide +kernel
theorem dX7_think_38 : decode cX7_think 38 = .ok (.invokevirtual 402, 3) := by decide +kernel
theorem dX7_think_41 : decode cX7_think 41 = .ok (.istore 6, 2) := by decide +kernel
theorem dX7_think_43 : decode cX7_think 43 = .ok (.iload 6, 2) := by decide +kernel
theorem dX7_think_45 : decode cX7_think 45 = .ok (.ifCond .ne 14, 3) := by decide +kernel
theorem dX7_think_48 : decode cX7_think 48 = .ok (.iload 4, 2) := by decide +kernel
theorem dX7_think_50 : decode cX7_think 50 = .ok (.bipush (-2), 2) := by decide +kernel
theorem dX7_think_52 : decode cX7_think 52 = .ok (.if_icmp .ne 7, 3) := by decide +kernel
theorem dX7_think_55 : decode cX7_think 55 = .ok (.iload 5, 2) := by decide +kernel
theorem dX7_think_57 : decode cX7_think 57 = .ok (.istore 4, 2) := by decide +kernel
theorem dX7_think_59 : decode cX7_think 59 = .ok (.iinc 5 1, 3) := by decide +kernel
theorem dX7_think_62 : decode cX7_think 62 = .ok (.goto (-34), 3) := by decide +kernel
theorem dX7_think_65 : decode cX7_think 65 = .ok (.iload 4, 2) := by decide +kernel
theorem dX7_think_67 : decode cX7_think 67 = .ok (.ireturn, 1) := by decide +kernel
theorem dX7_firstUnlike_0 : decode cX7_firstUnlike 0 = .ok (.aload_n 0, 1) := by decide +kernel
theorem dX7_firstUnlike_1 : decode cX7_firstUnlike 1 = .ok (.getfield 30, 3) := by decide +kernel
theorem dX7_firstUnlike_4 : decode cX7_firstUnlike 4 = .ok (.aload_n 0, 1) := by decide +kernel
theorem dX7_firstUnlike_5 : decode cX7_firstUnlike 5 = .ok (.getfield 26, 3) := by decide +kernel
theorem dX7_firstUnlike_8 : decode cX7_firstUnlike 8 = .ok (.invokevirtual 187, 3) := by decide +kernel
theorem dX7_firstUnlike_11 : decode cX7_firstUnlike 11 = .ok (.aload_n 0, 1) := by decide +kernel
theorem dX7_firstUnlike_12 : decode cX7_firstUnlike 12 = .ok (.iload_n 1, 1) := by decide +kernel
theorem dX7_firstUnlike_13 : decode cX7_firstUnlike 13 = .ok (.invokevirtual 399, 3) := by decide +kernel
theorem dX7_firstUnlike_16 : decode cX7_firstUnlike 16 = .ok (.istore 4, 2) := by decide +kernel
theorem dX7_firstUnlike_18 : decode cX7_firstUnlike 18 = .ok (.aload_n 0, 1) := by decide +kernel
theorem dX7_firstUnlike_19 : decode cX7_firstUnlike 19 = .ok (.getfield 54, 3) := by decide +kernel
theorem dX7_firstUnlike_22 : decode cX7_firstUnlike 22 = .ok (.iload_n 2, 1) := by decide +kernel
theorem dX7_firstUnlike_23 : decode cX7_firstUnlike 23 = .ok (.invokevirtual 396, 3) := by decide +kernel
theorem dX7_firstUnlike_26 : decode cX7_firstUnlike 26 = .ok (.istore 5, 2) := by decide +kernel
theorem dX7_firstUnlike_28 : decode cX7_firstUnlike 28 = .ok (.iconst 0, 1) := by decide +kernel
theorem dX7_firstUnlike_29 : decode cX7_firstUnlike 29 = .ok (.istore 6, 2) := by decide +kernel
theorem dX7_firstUnlike_31 : decode cX7_firstUnlike 31 = .ok (.iload 6, 2) := by decide +kernel
theorem dX7_firstUnlike_33 : decode cX7_firstUnlike 33 = .ok (.iload 5, 2) := by decide +kernel
theorem dX7_firstUnlike_35 : decode cX7_firstUnlike 35 = .ok (.if_icmp .ge 61, 3) := by decide +kernel
theorem dX7_firstUnlike_38 : decode cX7_firstUnlike 38 = .ok (.iload 6, 2) := by decide +kernel
theorem dX7_firstUnlike_40 : decode cX7_firstUnlike 40 = .ok (.iload 4, 2) := by decide +kernel
theorem dX7_firstUnlike_42 : decode cX7_firstUnlike 42 = .ok (.if_icmp .le 6, 3) := by decide +kernel
theorem dX7_firstUnlike_45 : decode cX7_firstUnlike 45 = .ok (.iload 6, 2) := by decide +kernel
theorem dX7_firstUnlike_47 : decode cX7_firstUnlike 47 = .ok (.ireturn, 1) := by decide +kernel
theorem dX7_firstUnlike_48 : decode cX7_firstUnlike 48 = .ok (.iload 6, 2) := by decide +kernel
theorem dX7_firstUnlike_50 : decode cX7_firstUnlike 50 = .ok (.ifCond .le 13, 3) := by decide +kernel
theorem dX7_firstUnlike_53 : decode cX7_firstUnlike 53 = .ok (.aload_n 0, 1) := by decide +kernel
theorem dX7_firstUnlike_54 : decode cX7_firstUnlike 54 = .ok (.iload_n 1, 1) := by decide +kernel
theorem dX7_firstUnlike_55 : decode cX7_firstUnlike 55 = .ok (.iload 6, 2) := by decide +kernel
theorem dX7_firstUnlike_57 : decode cX7_firstUnlike 57 = .ok (.iconst 1, 1) := by decide +kernel
theorem dX7_firstUnlike_58 : decode cX7_firstUnlike 58 = .ok (.isub, 1) := by decide +kernel
theorem dX7_firstUnlike_59 : decode cX7_firstUnlike 59 = .ok (.invokevirtual 402, 3) := by decide +kernel
theorem dX7_firstUnlike_62 : decode cX7_firstUnlike 62 = .ok (.pop, 1) := by decide +kernel
theorem dX7_firstUnlike_63 : decode cX7_firstUnlike 63 = .ok (.aload_n 0, 1) := by decide +kernel
theorem dX7_firstUnlike_64 : decode cX7_firstUnlike 64 = .ok (.getfield 54, 3) := by decide +kernel
theorem dX7_firstUnlike_67 : decode cX7_firstUnlike 67 = .ok (.iload_n 2, 1) := by decide +kernel
theorem dX7_firstUnlike_68 : decode cX7_firstUnlike 68 = .ok (.iload 6, 2) := by decide +kernel
theorem dX7_firstUnlike_70 : decode cX7_firstUnlike 70 = .ok (.invokevirtual 120, 3) := by decide +kernel
theorem dX7_firstUnlike_73 : decode cX7_firstUnlike 73 = .ok (.aload_n 0, 1) := by decide +kernel
theorem dX7_firstUnlike_74 : decode cX7_firstUnlike 74 = .ok (.getfield 30, 3) := by decide +kernel
theorem dX7_firstUnlike_77 : decode cX7_firstUnlike 77 = .ok (.getfield 169, 3) := by decide +kernel
theorem dX7_firstUnlike_80 : decode cX7_firstUnlike 80 = .ok (.iload_n 3, 1) := by decide +kernel
theorem dX7_firstUnlike_81 : decode cX7_firstUnlike 81 = .ok (.iaload, 1) := by decide +kernel
theorem dX7_firstUnlike_82 : decode cX7_firstUnlike 82 = .ok (.i2l, 1) := by decide +kernel
theorem dX7_firstUnlike_83 : decode cX7_firstUnlike 83 = .ok (.lcmp, 1) := by decide +kernel
theorem dX7_firstUnlike_84 : decode cX7_firstUnlike 84 = .ok (.ifCond .eq 6, 3) := by decide +kernel
theorem dX7_firstUnlike_87 : decode cX7_firstUnlike 87 = .ok (.iload 6, 2) := by decide +kernel
theorem dX7_firstUnlike_89 : decode cX7_firstUnlike 89 = .ok (.ireturn, 1) := by decide +kernel
theorem dX7_firstUnlike_90 : decode cX7_firstUnlike 90 = .ok (.iinc 6 1, 3) := by decide +kernel
theorem dX7_firstUnlike_93 : decode cX7_firstUnlike 93 = .ok (.goto (-62), 3) := by decide +kernel
theorem dX7_firstUnlike_96 : decode cX7_firstUnlike 96 = .ok (.bipush (-2), 2) := by decide +kernel
theorem dX7_firstUnlike_98 : decode cX7_firstUnlike 98 = .ok (.ireturn, 1) := by decide +kernel
theorem dX7_longestRise_0 : decode cX7_longestRise 0 = .ok (.iconst 0, 1) := by decide +kernel
theorem dX7_longestRise_1 : decode cX7_longestRise 1 = .ok (.istore_n 1, 1) := by decide +kernel
theorem dX7_longestRise_2 : decode cX7_longestRise 2 = .ok (.iconst 0, 1) := by decide +kernel
theorem dX7_longestRise_3 : decode cX7_longestRise 3 = .ok (.istore_n 2, 1) := by decide +kernel
theorem dX7_longestRise_4 : decode cX7_longestRise 4 = .ok (.iload_n 2, 1) := by decide +kernel
theorem dX7_longestRise_5 : decode cX7_longestRise 5 = .ok (.bipush 12, 2) := by decide +kernel
theorem dX7_longestRise_7 : decode cX7_longestRise 7 = .ok (.if_icmp .ge 123, 3) := by decide +kernel
theorem dX7_longestRise_10 : decode cX7_longestRise 10 = .ok (.aload_n 0, 1) := by decide +kernel
theorem dX7_longestRise_11 : decode cX7_longestRise 11 = .ok (.getfield 76, 3) := by decide +kernel
theorem dX7_longestRise_14 : decode cX7_longestRise 14 = .ok (.iload_n 2, 1) := by decide +kernel
theorem dX7_longestRise_15 : decode cX7_longestRise 15 = .ok (.iconst 1, 1) := by decide +kernel
theorem dX7_longestRise_16 : decode cX7_longestRise 16 = .ok (.iastore, 1) := by decide +kernel
theorem dX7_longestRise_17 : decode cX7_longestRise 17 = .ok (.aload_n 0, 1) := by decide +kernel
theorem dX7_longestRise_18 : decode cX7_longestRise 18 = .ok (.getfield 79, 3) := by decide +kernel
theorem dX7_longestRise_21 : decode cX7_longestRise 21 = .ok (.iload_n 2, 1) := by decide +kernel
theorem dX7_longestRise_22 : decode cX7_longestRise 22 = .ok (.iconst 1, 1) := by decide +kernel
theorem dX7_longestRise_23 : decode cX7_longestRise 23 = .ok (.iload_n 2, 1) := by decide +kernel
theorem dX7_longestRise_24 : decode cX7_longestRise 24 = .ok (.ishl, 1) := by decide +kernel
theorem dX7_longestRise_25 : decode cX7_longestRise 25 = .ok (.iastore, 1) := by decide +kernel
theorem dX7_longestRise_26 : decode cX7_longestRise 26 = .ok (.iconst 0, 1) := by decide +kernel
theorem dX7_longestRise_27 : decode cX7_longestRise 27 = .ok (.istore_n 3, 1) := by decide +kernel
theorem dX7_longestRise_28 : decode cX7_longestRise 28 = .ok (.iload_n 3, 1) := by decide +kernel
theorem dX7_longestRise_29 : decode cX7_longestRise 29 = .ok (.iload_n 2, 1) := by decide +kernel
theorem dX7_longestRise_30 : decode cX7_longestRise 30 = .ok (.if_icmp .ge 77, 3) := by decide +kernel
theorem dX7_longestRise_33 : decode cX7_longestRise 33 = .ok (.aload_n 0, 1) := by decide +kernel
theorem dX7_longestRise_34 : decode cX7_longestRise 34 = .ok (.getfield 26, 3) := by decide +kernel
theorem dX7_longestRise_37 : decode cX7_longestRise 37 = .ok (.getfield 169, 3) := by decide +kernel
theorem dX7_longestRise_40 : decode cX7_longestRise 40 = .ok (.iload_n 3, 1) := by decide +kernel
theorem dX7_longestRise_41 : decode cX7_longestRise 41 = .ok (.iaload, 1) := by decide +kernel
theorem dX7_longestRise_42 : decode cX7_longestRise 42 = .ok (.aload_n 0, 1) := by decide +kernel
theorem dX7_longestRise_43 : decode cX7_longestRise 43 = .ok (.getfield 26, 3) := by decide +kernel
theorem dX7_longestRise_46 : decode cX7_longestRise 46 = .ok (.getfield 169, 3) := by decide +kernel
theorem dX7_longestRise_49 : decode cX7_longestRise 49 = .ok (.iload_n 2, 1) := by decide +kernel
theorem dX7_longestRise_50 : decode cX7_longestRise 50 = .ok (.iaload, 1) := by decide +kernel
theorem dX7_longestRise_51 : decode cX7_longestRise 51 = .ok (.if_icmp .ge 50, 3) := by decide +kernel
theorem dX7_longestRise_54 : decode cX7_longestRise 54 = .ok (.aload_n 0, 1) := by decide +kernel
theorem dX7_longestRise_55 : decode cX7_longestRise 55 = .ok (.getfield 76, 3) := by decide +kernel
theorem dX7_longestRise_58 : decode cX7_longestRise 58 = .ok (.iload_n 3, 1) := by decide +kernel
theorem dX7_longestRise_59 : decode cX7_longestRise 59 = .ok (.iaload, 1) := by decide +kernel
theorem dX7_longestRise_60 : decode cX7_longestRise 60 = .ok (.iconst 1, 1) := by decide +kernel
theorem dX7_longestRise_61 : decode cX7_longestRise 61 = .ok (.iadd, 1) := by decide +kernel
theorem dX7_longestRise_62 : decode cX7_longestRise 62 = .ok (.aload_n 0, 1) := by decide +kernel
theorem dX7_longestRise_63 : decode cX7_longestRise 63 = .ok (.getfield 76, 3) := by decide +kernel
theorem dX7_longestRise_66 : decode cX7_longestRise 66 = .ok (.iload_n 2, 1) := by decide +kernel
theorem dX7_longestRise_67 : decode cX7_longestRise 67 = .ok (.iaload, 1) := by decide +kernel
theorem dX7_longestRise_68 : decode cX7_longestRise 68 = .ok (.if_icmp .le 33, 3) := by decide +kernel
theorem dX7_longestRise_71 : decode cX7_longestRise 71 = .ok (.aload_n 0, 1) := by decide +kernel
theorem dX7_longestRise_72 : decode cX7_longestRise 72 = .ok (.getfield 76, 3) := by decide +kernel
theorem dX7_longestRise_75 : decode cX7_longestRise 75 = .ok (.iload_n 2, 1) := by decide +kernel
theorem dX7_longestRise_76 : decode cX7_longestRise 76 = .ok (.aload_n 0, 1) := by decide +kernel
theorem dX7_longestRise_77 : decode cX7_longestRise 77 = .ok (.getfield 76, 3) := by decide +kernel
theorem dX7_longestRise_80 : decode cX7_longestRise 80 = .ok (.iload_n 3, 1) := by decide +kernel
theorem dX7_longestRise_81 : decode cX7_longestRise 81 = .ok (.iaload, 1) := by decide +kernel
theorem dX7_longestRise_82 : decode cX7_longestRise 82 = .ok (.iconst 1, 1) := by decide +kernel
theorem dX7_longestRise_83 : decode cX7_longestRise 83 = .ok (.iadd, 1) := by decide +kernel
theorem dX7_longestRise_84 : decode cX7_longestRise 84 = .ok (.iastore, 1) := by decide +kernel
theorem dX7_longestRise_85 : decode cX7_longestRise 85 = .ok (.aload_n 0, 1) := by decide +kernel
theorem dX7_longestRise_86 : decode cX7_longestRise 86 = .ok (.getfield 79, 3) := by decide +kernel
theorem dX7_longestRise_89 : decode cX7_longestRise 89 = .ok (.iload_n 2, 1) := by decide +kernel
theorem dX7_longestRise_90 : decode cX7_longestRise 90 = .ok (.aload_n 0, 1) := by decide +kernel
theorem dX7_longestRise_91 : decode cX7_longestRise 91 = .ok (.getfield 79, 3) := by decide +kernel
theorem dX7_longestRise_94 : decode cX7_longestRise 94 = .ok (.iload_n 3, 1) := by decide +kernel
theorem dX7_longestRise_95 : decode cX7_longestRise 95 = .ok (.iaload, 1) := by decide +kernel
theorem dX7_longestRise_96 : decode cX7_longestRise 96 = .ok (.iconst 1, 1) := by decide +kernel
theorem dX7_longestRise_97 : decode cX7_longestRise 97 = .ok (.iload_n 2, 1) := by decide +kernel
theorem dX7_longestRise_98 : decode cX7_longestRise 98 = .ok (.ishl, 1) := by decide +kernel
theorem dX7_longestRise_99 : decode cX7_longestRise 99 = .ok (.ior, 1) := by decide +kernel
theorem dX7_longestRise_100 : decode cX7_longestRise 100 = .ok (.iastore, 1) := by decide +kernel
theorem dX7_longestRise_101 : decode cX7_longestRise 101 = .ok (.iinc 3 1, 3) := by decide +kernel
theorem dX7_longestRise_104 : decode cX7_longestRise 104 = .ok (.goto (-76), 3) := by decide +kernel
theorem dX7_longestRise_107 : decode cX7_longestRise 107 = .ok (.aload_n 0, 1) := by decide +kernel
theorem dX7_longestRise_108 : decode cX7_longestRise 108 = .ok (.getfield 76, 3) := by decide +kernel
theorem dX7_longestRise_111 : decode cX7_longestRise 111 = .ok (.iload_n 2, 1) := by decide +kernel
theorem dX7_longestRise_112 : decode cX7_longestRise 112 = .ok (.iaload, 1) := by decide +kernel
theorem dX7_longestRise_113 : decode cX7_longestRise 113 = .ok (.aload_n 0, 1) := by decide +kernel
theorem dX7_longestRise_114 : decode cX7_longestRise 114 = .ok (.getfield 76, 3) := by decide +kernel
theorem dX7_longestRise_117 : decode cX7_longestRise 117 = .ok (.iload_n 1, 1) := by decide +kernel
theorem dX7_longestRise_118 : decode cX7_longestRise 118 = .ok (.iaload, 1) := by decide +kernel
theorem dX7_longestRise_119 : decode cX7_longestRise 119 = .ok (.if_icmp .le 5, 3) := by decide +kernel
theorem dX7_longestRise_122 : decode cX7_longestRise 122 = .ok (.iload_n 2, 1) := by decide +kernel
theorem dX7_longestRise_123 : decode cX7_longestRise 123 = .ok (.istore_n 1, 1) := by decide +kernel
theorem dX7_longestRise_124 : decode cX7_longestRise 124 = .ok (.iinc 2 1, 3) := by decide +kernel
theorem dX7_longestRise_127 : decode cX7_longestRise 127 = .ok (.goto (-123), 3) := by decide +kernel
theorem dX7_longestRise_130 : decode cX7_longestRise 130 = .ok (.iload_n 1, 1) := by decide +kernel
theorem dX7_longestRise_131 : decode cX7_longestRise 131 = .ok (.ireturn, 1) := by decide +kernel
theorem dX7_searchFewest_0 : decode cX7_searchFewest 0 = .ok (.aload_n 0, 1) := by decide +kernel
theorem dX7_searchFewest_1 : decode cX7_searchFewest 1 = .ok (.getfield 30, 3) := by decide +kernel
theorem dX7_searchFewest_4 : decode cX7_searchFewest 4 = .ok (.aload_n 0, 1) := by decide +kernel
theorem dX7_searchFewest_5 : decode cX7_searchFewest 5 = .ok (.getfield 26, 3) := by decide +kernel
theorem dX7_searchFewest_8 : decode cX7_searchFewest 8 = .ok (.invokevirtual 187, 3) := by decide +kernel
theorem dX7_searchFewest_11 : decode cX7_searchFewest 11 = .ok (.aload_n 0, 1) := by decide +kernel
theorem dX7_searchFewest_12 : decode cX7_searchFewest 12 = .ok (.getfield 30, 3) := by decide +kernel
theorem dX7_searchFewest_15 : decode cX7_searchFewest 15 = .ok (.invokevirtual 405, 3) := by decide +kernel
theorem dX7_searchFewest_18 : decode cX7_searchFewest 18 = .ok (.istore_n 1, 1) := by decide +kernel
theorem dX7_searchFewest_19 : decode cX7_searchFewest 19 = .ok (.iload_n 1, 1) := by decide +kernel
theorem dX7_searchFewest_20 : decode cX7_searchFewest 20 = .ok (.bipush (-2), 2) := by decide +kernel
theorem dX7_searchFewest_22 : decode cX7_searchFewest 22 = .ok (.if_icmp .ne 5, 3) := by decide +kernel
theorem dX7_searchFewest_25 : decode cX7_searchFewest 25 = .ok (.iconst 0, 1) := by decide +kernel
theorem dX7_searchFewest_26 : decode cX7_searchFewest 26 = .ok (.ireturn, 1) := by decide +kernel
theorem dX7_searchFewest_27 : decode cX7_searchFewest 27 = .ok (.iload_n 1, 1) := by decide +kernel
theorem dX7_searchFewest_28 : decode cX7_searchFewest 28 = .ok (.aload_n 0, 1) := by decide +kernel
theorem dX7_searchFewest_29 : decode cX7_searchFewest 29 = .ok (.getfield 30, 3) := by decide +kernel
theorem dX7_searchFewest_32 : decode cX7_searchFewest 32 = .ok (.invokevirtual 408, 3) := by decide +kernel
theorem dX7_searchFewest_35 : decode cX7_searchFewest 35 = .ok (.if_icmp .ne 14, 3) := by decide +kernel
theorem dX7_searchFewest_38 : decode cX7_searchFewest 38 = .ok (.aload_n 0, 1) := by decide +kernel
theorem dX7_searchFewest_39 : decode cX7_searchFewest 39 = .ok (.iload_n 1, 1) := by decide +kernel
theorem dX7_searchFewest_40 : decode cX7_searchFewest 40 = .ok (.iconst 0, 1) := by decide +kernel
theorem dX7_searchFewest_41 : decode cX7_searchFewest 41 = .ok (.invokevirtual 411, 3) := by decide +kernel
theorem dX7_searchFewest_44 : decode cX7_searchFewest 44 = .ok (.ifCond .eq 5, 3) := by decide +kernel
theorem dX7_searchFewest_47 : decode cX7_searchFewest 47 = .ok (.iconst 1, 1) := by decide +kernel
theorem dX7_searchFewest_48 : decode cX7_searchFewest 48 = .ok (.ireturn, 1) := by decide +kernel
theorem dX7_searchFewest_49 : decode cX7_searchFewest 49 = .ok (.iconst 0, 1) := by decide +kernel
theorem dX7_searchFewest_50 : decode cX7_searchFewest 50 = .ok (.istore_n 2, 1) := by decide +kernel
theorem dX7_searchFewest_51 : decode cX7_searchFewest 51 = .ok (.iload_n 2, 1) := by decide +kernel
theorem dX7_searchFewest_52 : decode cX7_searchFewest 52 = .ok (.aload_n 0, 1) := by decide +kernel
theorem dX7_searchFewest_53 : decode cX7_searchFewest 53 = .ok (.getfield 10, 3) := by decide +kernel
theorem dX7_searchFewest_56 : decode cX7_searchFewest 56 = .ok (.getfield 100, 3) := by decide +kernel
theorem dX7_searchFewest_59 : decode cX7_searchFewest 59 = .ok (.bipush 12, 2) := by decide +kernel
theorem dX7_searchFewest_61 : decode cX7_searchFewest 61 = .ok (.imul, 1) := by decide +kernel
theorem dX7_searchFewest_62 : decode cX7_searchFewest 62 = .ok (.if_icmp .ge 129, 3) := by decide +kernel
theorem dX7_searchFewest_65 : decode cX7_searchFewest 65 = .ok (.iload_n 2, 1) := by decide +kernel
theorem dX7_searchFewest_66 : decode cX7_searchFewest 66 = .ok (.bipush 12, 2) := by decide +kernel
theorem dX7_searchFewest_68 : decode cX7_searchFewest 68 = .ok (.idiv, 1) := by decide +kernel
theorem dX7_searchFewest_69 : decode cX7_searchFewest 69 = .ok (.istore_n 3, 1) := by decide +kernel
theorem dX7_searchFewest_70 : decode cX7_searchFewest 70 = .ok (.iload_n 2, 1) := by decide +kernel
theorem dX7_searchFewest_71 : decode cX7_searchFewest 71 = .ok (.bipush 12, 2) := by decide +kernel
theorem dX7_searchFewest_73 : decode cX7_searchFewest 73 = .ok (.irem, 1) := by decide +kernel
theorem dX7_searchFewest_74 : decode cX7_searchFewest 74 = .ok (.istore 4, 2) := by decide +kernel
theorem dX7_searchFewest_76 : decode cX7_searchFewest 76 = .ok (.aload_n 0, 1) := by decide +kernel
theorem dX7_searchFewest_77 : decode cX7_searchFewest 77 = .ok (.getfield 30, 3) := by decide +kernel
theorem dX7_searchFewest_80 : decode cX7_searchFewest 80 = .ok (.getfield 169, 3) := by decide +kernel
theorem dX7_searchFewest_83 : decode cX7_searchFewest 83 = .ok (.iload 4, 2) := by decide +kernel
theorem dX7_searchFewest_85 : decode cX7_searchFewest 85 = .ok (.iaload, 1) := by decide +kernel
theorem dX7_searchFewest_86 : decode cX7_searchFewest 86 = .ok (.istore 5, 2) := by decide +kernel
theorem dX7_searchFewest_88 : decode cX7_searchFewest 88 = .ok (.aload_n 0, 1) := by decide +kernel
theorem dX7_searchFewest_89 : decode cX7_searchFewest 89 = .ok (.aload_n 0, 1) := by decide +kernel
theorem dX7_searchFewest_90 : decode cX7_searchFewest 90 = .ok (.getfield 30, 3) := by decide +kernel
theorem dX7_searchFewest_93 : decode cX7_searchFewest 93 = .ok (.iload_n 3, 1) := by decide +kernel
theorem dX7_searchFewest_94 : decode cX7_searchFewest 94 = .ok (.iload 4, 2) := by decide +kernel
theorem dX7_searchFewest_96 : decode cX7_searchFewest 96 = .ok (.invokevirtual 191, 3) := by decide +kernel
theorem dX7_searchFewest_99 : decode cX7_searchFewest 99 = .ok (.ifCond .ne 6, 3) := by decide +kernel
theorem dX7_searchFewest_102 : decode cX7_searchFewest 102 = .ok (.goto 83, 3) := by decide +kernel
theorem dX7_searchFewest_105 : decode cX7_searchFewest 105 = .ok (.aload_n 0, 1) := by decide +kernel
theorem dX7_searchFewest_106 : decode cX7_searchFewest 106 = .ok (.getfield 30, 3) := by decide +kernel
theorem dX7_searchFewest_109 : decode cX7_searchFewest 109 = .ok (.invokevirtual 405, 3) := by decide +kernel
theorem dX7_searchFewest_112 : decode cX7_searchFewest 112 = .ok (.istore 6, 2) := by decide +kernel
theorem dX7_searchFewest_114 : decode cX7_searchFewest 114 = .ok (.iload 6, 2) := by decide +kernel
theorem dX7_searchFewest_116 : decode cX7_searchFewest 116 = .ok (.bipush (-2), 2) := by decide +kernel
theorem dX7_searchFewest_118 : decode cX7_searchFewest 118 = .ok (.if_icmp .eq 29, 3) := by decide +kernel
theorem dX7_searchFewest_121 : decode cX7_searchFewest 121 = .ok (.iload 6, 2) := by decide +kernel
theorem dX7_searchFewest_123 : decode cX7_searchFewest 123 = .ok (.aload_n 0, 1) := by decide +kernel
theorem dX7_searchFewest_124 : decode cX7_searchFewest 124 = .ok (.getfield 30, 3) := by decide +kernel
theorem dX7_searchFewest_127 : decode cX7_searchFewest 127 = .ok (.invokevirtual 408, 3) := by decide +kernel
theorem dX7_searchFewest_130 : decode cX7_searchFewest 130 = .ok (.if_icmp .ne 17, 3) := by decide +kernel
theorem dX7_searchFewest_133 : decode cX7_searchFewest 133 = .ok (.aload_n 0, 1) := by decide +kernel
theorem dX7_searchFewest_134 : decode cX7_searchFewest 134 = .ok (.iload 6, 2) := by decide +kernel
theorem dX7_searchFewest_136 : decode cX7_searchFewest 136 = .ok (.iconst 1, 1) := by decide +kernel
theorem dX7_searchFewest_137 : decode cX7_searchFewest 137 = .ok (.invokevirtual 411, 3) := by decide +kernel
theorem dX7_searchFewest_140 : decode cX7_searchFewest 140 = .ok (.ifCond .eq 7, 3) := by decide +kernel
theorem dX7_searchFewest_143 : decode cX7_searchFewest 143 = .ok (.iconst 1, 1) := by decide +kernel
theorem dX7_searchFewest_144 : decode cX7_searchFewest 144 = .ok (.goto 4, 3) := by decide +kernel
theorem dX7_searchFewest_147 : decode cX7_searchFewest 147 = .ok (.iconst 0, 1) := by decide +kernel
theorem dX7_searchFewest_148 : decode cX7_searchFewest 148 = .ok (.istore 7, 2) := by decide +kernel
theorem dX7_searchFewest_150 : decode cX7_searchFewest 150 = .ok (.aload_n 0, 1) := by decide +kernel
theorem dX7_searchFewest_151 : decode cX7_searchFewest 151 = .ok (.getfield 30, 3) := by decide +kernel
theorem dX7_searchFewest_154 : decode cX7_searchFewest 154 = .ok (.getfield 169, 3) := by decide +kernel
theorem dX7_searchFewest_157 : decode cX7_searchFewest 157 = .ok (.iload 4, 2) := by decide +kernel
theorem dX7_searchFewest_159 : decode cX7_searchFewest 159 = .ok (.iload 5, 2) := by decide +kernel
theorem dX7_searchFewest_161 : decode cX7_searchFewest 161 = .ok (.iastore, 1) := by decide +kernel
theorem dX7_searchFewest_162 : decode cX7_searchFewest 162 = .ok (.aload_n 0, 1) := by decide +kernel
theorem dX7_searchFewest_163 : decode cX7_searchFewest 163 = .ok (.getfield 30, 3) := by decide +kernel
theorem dX7_searchFewest_166 : decode cX7_searchFewest 166 = .ok (.iload_n 3, 1) := by decide +kernel
theorem dX7_searchFewest_167 : decode cX7_searchFewest 167 = .ok (.iconst 0, 1) := by decide +kernel
theorem dX7_searchFewest_168 : decode cX7_searchFewest 168 = .ok (.invokevirtual 377, 3) := by decide +kernel
theorem dX7_searchFewest_171 : decode cX7_searchFewest 171 = .ok (.iload 7, 2) := by decide +kernel
theorem dX7_searchFewest_173 : decode cX7_searchFewest 173 = .ok (.ifCond .eq 12, 3) := by decide +kernel
theorem dX7_searchFewest_176 : decode cX7_searchFewest 176 = .ok (.aload_n 0, 1) := by decide +kernel
theorem dX7_searchFewest_177 : decode cX7_searchFewest 177 = .ok (.getfield 72, 3) := by decide +kernel
theorem dX7_searchFewest_180 : decode cX7_searchFewest 180 = .ok (.iconst 0, 1) := by decide +kernel
theorem dX7_searchFewest_181 : decode cX7_searchFewest 181 = .ok (.iload_n 2, 1) := by decide +kernel
theorem dX7_searchFewest_182 : decode cX7_searchFewest 182 = .ok (.iastore, 1) := by decide +kernel
theorem dX7_searchFewest_183 : decode cX7_searchFewest 183 = .ok (.iconst 2, 1) := by decide +kernel
theorem dX7_searchFewest_184 : decode cX7_searchFewest 184 = .ok (.ireturn, 1) := by decide +kernel
theorem dX7_searchFewest_185 : decode cX7_searchFewest 185 = .ok (.iinc 2 1, 3) := by decide +kernel
theorem dX7_searchFewest_188 : decode cX7_searchFewest 188 = .ok (.goto (-137), 3) := by decide +kernel
theorem dX7_searchFewest_191 : decode cX7_searchFewest 191 = .ok (.bipush (-2), 2) := by decide +kernel
theorem dX7_searchFewest_193 : decode cX7_searchFewest 193 = .ok (.ireturn, 1) := by decide +kernel
theorem dX7_mendsIn_0 : decode cX7_mendsIn 0 = .ok (.aload_n 0, 1) := by decide +kernel
theorem dX7_mendsIn_1 : decode cX7_mendsIn 1 = .ok (.getfield 30, 3) := by decide +kernel
theorem dX7_mendsIn_4 : decode cX7_mendsIn 4 = .ok (.getfield 169, 3) := by decide +kernel
theorem dX7_mendsIn_7 : decode cX7_mendsIn 7 = .ok (.iload_n 1, 1) := by decide +kernel
theorem dX7_mendsIn_8 : decode cX7_mendsIn 8 = .ok (.iaload, 1) := by decide +kernel
theorem dX7_mendsIn_9 : decode cX7_mendsIn 9 = .ok (.istore_n 3, 1) := by decide +kernel
theorem dX7_mendsIn_10 : decode cX7_mendsIn 10 = .ok (.iconst 0, 1) := by decide +kernel
theorem dX7_mendsIn_11 : decode cX7_mendsIn 11 = .ok (.istore 4, 2) := by decide +kernel
theorem dX7_mendsIn_13 : decode cX7_mendsIn 13 = .ok (.iload 4, 2) := by decide +kernel
theorem dX7_mendsIn_15 : decode cX7_mendsIn 15 = .ok (.aload_n 0, 1) := by decide +kernel
theorem dX7_mendsIn_16 : decode cX7_mendsIn 16 = .ok (.getfield 10, 3) := by decide +kernel
theorem dX7_mendsIn_19 : decode cX7_mendsIn 19 = .ok (.getfield 100, 3) := by decide +kernel
theorem dX7_mendsIn_22 : decode cX7_mendsIn 22 = .ok (.if_icmp .ge 85, 3) := by decide +kernel
theorem dX7_mendsIn_25 : decode cX7_mendsIn 25 = .ok (.aload_n 0, 1) := by decide +kernel
theorem dX7_mendsIn_26 : decode cX7_mendsIn 26 = .ok (.aload_n 0, 1) := by decide +kernel
theorem dX7_mendsIn_27 : decode cX7_mendsIn 27 = .ok (.getfield 30, 3) := by decide +kernel
theorem dX7_mendsIn_30 : decode cX7_mendsIn 30 = .ok (.iload 4, 2) := by decide +kernel
theorem dX7_mendsIn_32 : decode cX7_mendsIn 32 = .ok (.iload_n 1, 1) := by decide +kernel
theorem dX7_mendsIn_33 : decode cX7_mendsIn 33 = .ok (.invokevirtual 191, 3) := by decide +kernel
theorem dX7_mendsIn_36 : decode cX7_mendsIn 36 = .ok (.ifCond .ne 6, 3) := by decide +kernel
theorem dX7_mendsIn_39 : decode cX7_mendsIn 39 = .ok (.goto 62, 3) := by decide +kernel
theorem dX7_mendsIn_42 : decode cX7_mendsIn 42 = .ok (.aload_n 0, 1) := by decide +kernel
theorem dX7_mendsIn_43 : decode cX7_mendsIn 43 = .ok (.getfield 30, 3) := by decide +kernel
theorem dX7_mendsIn_46 : decode cX7_mendsIn 46 = .ok (.invokevirtual 405, 3) := by decide +kernel
theorem dX7_mendsIn_49 : decode cX7_mendsIn 49 = .ok (.bipush (-2), 2) := by decide +kernel
theorem dX7_mendsIn_51 : decode cX7_mendsIn 51 = .ok (.if_icmp .ne 7, 3) := by decide +kernel
theorem dX7_mendsIn_54 : decode cX7_mendsIn 54 = .ok (.iconst 1, 1) := by decide +kernel
theorem dX7_mendsIn_55 : decode cX7_mendsIn 55 = .ok (.goto 4, 3) := by decide +kernel
theorem dX7_mendsIn_58 : decode cX7_mendsIn 58 = .ok (.iconst 0, 1) := by decide +kernel
theorem dX7_mendsIn_59 : decode cX7_mendsIn 59 = .ok (.istore 5, 2) := by decide +kernel
theorem dX7_mendsIn_61 : decode cX7_mendsIn 61 = .ok (.aload_n 0, 1) := by decide +kernel
theorem dX7_mendsIn_62 : decode cX7_mendsIn 62 = .ok (.getfield 30, 3) := by decide +kernel
theorem dX7_mendsIn_65 : decode cX7_mendsIn 65 = .ok (.getfield 169, 3) := by decide +kernel
theorem dX7_mendsIn_68 : decode cX7_mendsIn 68 = .ok (.iload_n 1, 1) := by decide +kernel
theorem dX7_mendsIn_69 : decode cX7_mendsIn 69 = .ok (.iload_n 3, 1) := by decide +kernel
theorem dX7_mendsIn_70 : decode cX7_mendsIn 70 = .ok (.iastore, 1) := by decide +kernel
theorem dX7_mendsIn_71 : decode cX7_mendsIn 71 = .ok (.aload_n 0, 1) := by decide +kernel
theorem dX7_mendsIn_72 : decode cX7_mendsIn 72 = .ok (.getfield 30, 3) := by decide +kernel
theorem dX7_mendsIn_75 : decode cX7_mendsIn 75 = .ok (.iload 4, 2) := by decide +kernel
theorem dX7_mendsIn_77 : decode cX7_mendsIn 77 = .ok (.iconst 0, 1) := by decide +kernel
theorem dX7_mendsIn_78 : decode cX7_mendsIn 78 = .ok (.invokevirtual 377, 3) := by decide +kernel
theorem dX7_mendsIn_81 : decode cX7_mendsIn 81 = .ok (.iload 5, 2) := by decide +kernel
theorem dX7_mendsIn_83 : decode cX7_mendsIn 83 = .ok (.ifCond .eq 18, 3) := by decide +kernel
theorem dX7_mendsIn_86 : decode cX7_mendsIn 86 = .ok (.aload_n 0, 1) := by decide +kernel
theorem dX7_mendsIn_87 : decode cX7_mendsIn 87 = .ok (.getfield 72, 3) := by decide +kernel
theorem dX7_mendsIn_90 : decode cX7_mendsIn 90 = .ok (.iload_n 2, 1) := by decide +kernel
theorem dX7_mendsIn_91 : decode cX7_mendsIn 91 = .ok (.iload 4, 2) := by decide +kernel
theorem dX7_mendsIn_93 : decode cX7_mendsIn 93 = .ok (.bipush 12, 2) := by decide +kernel
theorem dX7_mendsIn_95 : decode cX7_mendsIn 95 = .ok (.imul, 1) := by decide +kernel
theorem dX7_mendsIn_96 : decode cX7_mendsIn 96 = .ok (.iload_n 1, 1) := by decide +kernel
theorem dX7_mendsIn_97 : decode cX7_mendsIn 97 = .ok (.iadd, 1) := by decide +kernel
theorem dX7_mendsIn_98 : decode cX7_mendsIn 98 = .ok (.iastore, 1) := by decide +kernel
theorem dX7_mendsIn_99 : decode cX7_mendsIn 99 = .ok (.iconst 1, 1) := by decide +kernel
theorem dX7_mendsIn_100 : decode cX7_mendsIn 100 = .ok (.ireturn, 1) := by decide +kernel
theorem dX7_mendsIn_101 : decode cX7_mendsIn 101 = .ok (.iinc 4 1, 3) := by decide +kernel
theorem dX7_mendsIn_104 : decode cX7_mendsIn 104 = .ok (.goto (-91), 3) := by decide +kernel
theorem dX7_mendsIn_107 : decode cX7_mendsIn 107 = .ok (.iconst 0, 1) := by decide +kernel
theorem dX7_mendsIn_108 : decode cX7_mendsIn 108 = .ok (.ireturn, 1) := by decide +kernel
theorem dX7_stepsHome_0 : decode cX7_stepsHome 0 = .ok (.iconst 1, 1) := by decide +kernel
theorem dX7_stepsHome_1 : decode cX7_stepsHome 1 = .ok (.iload_n 1, 1) := by decide +kernel
theorem dX7_stepsHome_2 : decode cX7_stepsHome 2 = .ok (.ishl, 1) := by decide +kernel
theorem dX7_stepsHome_3 : decode cX7_stepsHome 3 = .ok (.istore_n 2, 1) := by decide +kernel
theorem dX7_stepsHome_4 : decode cX7_stepsHome 4 = .ok (.iconst 1, 1) := by decide +kernel
theorem dX7_stepsHome_5 : decode cX7_stepsHome 5 = .ok (.istore_n 3, 1) := by decide +kernel
theorem dX7_stepsHome_6 : decode cX7_stepsHome 6 = .ok (.iload_n 3, 1) := by decide +kernel
theorem dX7_stepsHome_7 : decode cX7_stepsHome 7 = .ok (.bipush 10, 2) := by decide +kernel
theorem dX7_stepsHome_9 : decode cX7_stepsHome 9 = .ok (.if_icmp .gt 68, 3) := by decide +kernel
theorem dX7_stepsHome_12 : decode cX7_stepsHome 12 = .ok (.iconst 0, 1) := by decide +kernel
theorem dX7_stepsHome_13 : decode cX7_stepsHome 13 = .ok (.istore 4, 2) := by decide +kernel
theorem dX7_stepsHome_15 : decode cX7_stepsHome 15 = .ok (.iconst 0, 1) := by decide +kernel
theorem dX7_stepsHome_16 : decode cX7_stepsHome 16 = .ok (.istore 5, 2) := by decide +kernel
theorem dX7_stepsHome_18 : decode cX7_stepsHome 18 = .ok (.iload 5, 2) := by decide +kernel
theorem dX7_stepsHome_20 : decode cX7_stepsHome 20 = .ok (.aload_n 0, 1) := by decide +kernel
theorem dX7_stepsHome_21 : decode cX7_stepsHome 21 = .ok (.getfield 10, 3) := by decide +kernel
theorem dX7_stepsHome_24 : decode cX7_stepsHome 24 = .ok (.getfield 89, 3) := by decide +kernel
theorem dX7_stepsHome_27 : decode cX7_stepsHome 27 = .ok (.if_icmp .ge 30, 3) := by decide +kernel
theorem dX7_stepsHome_30 : decode cX7_stepsHome 30 = .ok (.iload_n 2, 1) := by decide +kernel
theorem dX7_stepsHome_31 : decode cX7_stepsHome 31 = .ok (.iload 5, 2) := by decide +kernel
theorem dX7_stepsHome_33 : decode cX7_stepsHome 33 = .ok (.ishr, 1) := by decide +kernel
theorem dX7_stepsHome_34 : decode cX7_stepsHome 34 = .ok (.iconst 1, 1) := by decide +kernel
theorem dX7_stepsHome_35 : decode cX7_stepsHome 35 = .ok (.iand, 1) := by decide +kernel
theorem dX7_stepsHome_36 : decode cX7_stepsHome 36 = .ok (.ifCond .eq 15, 3) := by decide +kernel
theorem dX7_stepsHome_39 : decode cX7_stepsHome 39 = .ok (.iload 4, 2) := by decide +kernel
theorem dX7_stepsHome_41 : decode cX7_stepsHome 41 = .ok (.aload_n 0, 1) := by decide +kernel
theorem dX7_stepsHome_42 : decode cX7_stepsHome 42 = .ok (.getfield 82, 3) := by decide +kernel
theorem dX7_stepsHome_45 : decode cX7_stepsHome 45 = .ok (.iload 5, 2) := by decide +kernel
theorem dX7_stepsHome_47 : decode cX7_stepsHome 47 = .ok (.iaload, 1) := by decide +kernel
theorem dX7_stepsHome_48 : decode cX7_stepsHome 48 = .ok (.ior, 1) := by decide +kernel
theorem dX7_stepsHome_49 : decode cX7_stepsHome 49 = .ok (.istore 4, 2) := by decide +kernel
theorem dX7_stepsHome_51 : decode cX7_stepsHome 51 = .ok (.iinc 5 1, 3) := by decide +kernel
theorem dX7_stepsHome_54 : decode cX7_stepsHome 54 = .ok (.goto (-36), 3) := by decide +kernel
theorem dX7_stepsHome_57 : decode cX7_stepsHome 57 = .ok (.iload 4, 2) := by decide +kernel
theorem dX7_stepsHome_59 : decode cX7_stepsHome 59 = .ok (.iload_n 1, 1) := by decide +kernel
theorem dX7_stepsHome_60 : decode cX7_stepsHome 60 = .ok (.ishr, 1) := by decide +kernel
theorem dX7_stepsHome_61 : decode cX7_stepsHome 61 = .ok (.iconst 1, 1) := by decide +kernel
theorem dX7_stepsHome_62 : decode cX7_stepsHome 62 = .ok (.iand, 1) := by decide +kernel
theorem dX7_stepsHome_63 : decode cX7_stepsHome 63 = .ok (.ifCond .eq 5, 3) := by decide +kernel
theorem dX7_stepsHome_66 : decode cX7_stepsHome 66 = .ok (.iload_n 3, 1) := by decide +kernel
theorem dX7_stepsHome_67 : decode cX7_stepsHome 67 = .ok (.ireturn, 1) := by decide +kernel
theorem dX7_stepsHome_68 : decode cX7_stepsHome 68 = .ok (.iload 4, 2) := by decide +kernel
theorem dX7_stepsHome_70 : decode cX7_stepsHome 70 = .ok (.istore_n 2, 1) := by decide +kernel
theorem dX7_stepsHome_71 : decode cX7_stepsHome 71 = .ok (.iinc 3 1, 3) := by decide +kernel
theorem dX7_stepsHome_74 : decode cX7_stepsHome 74 = .ok (.goto (-68), 3) := by decide +kernel
theorem dX7_stepsHome_77 : decode cX7_stepsHome 77 = .ok (.bipush (-2), 2) := by decide +kernel
theorem dX7_stepsHome_79 : decode cX7_stepsHome 79 = .ok (.ireturn, 1) := by decide +kernel
theorem dX7_nearestFree_0 : decode cX7_nearestFree 0 = .ok (.iconst 0, 1) := by decide +kernel
theorem dX7_nearestFree_1 : decode cX7_nearestFree 1 = .ok (.istore_n 3, 1) := by decide +kernel
theorem dX7_nearestFree_2 : decode cX7_nearestFree 2 = .ok (.sipush 1000, 3) := by decide +kernel
theorem dX7_nearestFree_5 : decode cX7_nearestFree 5 = .ok (.istore 4, 2) := by decide +kernel
theorem dX7_nearestFree_7 : decode cX7_nearestFree 7 = .ok (.iconst 0, 1) := by decide +kernel
theorem dX7_nearestFree_8 : decode cX7_nearestFree 8 = .ok (.istore 5, 2) := by decide +kernel
theorem dX7_nearestFree_10 : decode cX7_nearestFree 10 = .ok (.iload 5, 2) := by decide +kernel
theorem dX7_nearestFree_12 : decode cX7_nearestFree 12 = .ok (.bipush 12, 2) := by decide +kernel
theorem dX7_nearestFree_14 : decode cX7_nearestFree 14 = .ok (.if_icmp .ge 49, 3) := by decide +kernel
theorem dX7_nearestFree_17 : decode cX7_nearestFree 17 = .ok (.aload_n 0, 1) := by decide +kernel
theorem dX7_nearestFree_18 : decode cX7_nearestFree 18 = .ok (.getfield 26, 3) := by decide +kernel
theorem dX7_nearestFree_21 : decode cX7_nearestFree 21 = .ok (.getfield 169, 3) := by decide +kernel
theorem dX7_nearestFree_24 : decode cX7_nearestFree 24 = .ok (.iload 5, 2) := by decide +kernel
theorem dX7_nearestFree_26 : decode cX7_nearestFree 26 = .ok (.iaload, 1) := by decide +kernel
theorem dX7_nearestFree_27 : decode cX7_nearestFree 27 = .ok (.iload_n 1, 1) := by decide +kernel
theorem dX7_nearestFree_28 : decode cX7_nearestFree 28 = .ok (.isub, 1) := by decide +kernel
theorem dX7_nearestFree_29 : decode cX7_nearestFree 29 = .ok (.invokestatic 414, 3) := by decide +kernel
theorem dX7_nearestFree_32 : decode cX7_nearestFree 32 = .ok (.istore 6, 2) := by decide +kernel
theorem dX7_nearestFree_34 : decode cX7_nearestFree 34 = .ok (.iload_n 2, 1) := by decide +kernel
theorem dX7_nearestFree_35 : decode cX7_nearestFree 35 = .ok (.iload 5, 2) := by decide +kernel
theorem dX7_nearestFree_37 : decode cX7_nearestFree 37 = .ok (.ishr, 1) := by decide +kernel
theorem dX7_nearestFree_38 : decode cX7_nearestFree 38 = .ok (.iconst 1, 1) := by decide +kernel
theorem dX7_nearestFree_39 : decode cX7_nearestFree 39 = .ok (.iand, 1) := by decide +kernel
theorem dX7_nearestFree_40 : decode cX7_nearestFree 40 = .ok (.ifCond .ne 17, 3) := by decide +kernel
theorem dX7_nearestFree_43 : decode cX7_nearestFree 43 = .ok (.iload 6, 2) := by decide +kernel
theorem dX7_nearestFree_45 : decode cX7_nearestFree 45 = .ok (.iload 4, 2) := by decide +kernel
theorem dX7_nearestFree_47 : decode cX7_nearestFree 47 = .ok (.if_icmp .ge 10, 3) := by decide +kernel
theorem dX7_nearestFree_50 : decode cX7_nearestFree 50 = .ok (.iload 5, 2) := by decide +kernel
theorem dX7_nearestFree_52 : decode cX7_nearestFree 52 = .ok (.istore_n 3, 1) := by decide +kernel
theorem dX7_nearestFree_53 : decode cX7_nearestFree 53 = .ok (.iload 6, 2) := by decide +kernel
theorem dX7_nearestFree_55 : decode cX7_nearestFree 55 = .ok (.istore 4, 2) := by decide +kernel
theorem dX7_nearestFree_57 : decode cX7_nearestFree 57 = .ok (.iinc 5 1, 3) := by decide +kernel
theorem dX7_nearestFree_60 : decode cX7_nearestFree 60 = .ok (.goto (-50), 3) := by decide +kernel
theorem dX7_nearestFree_63 : decode cX7_nearestFree 63 = .ok (.iload_n 3, 1) := by decide +kernel
theorem dX7_nearestFree_64 : decode cX7_nearestFree 64 = .ok (.ireturn, 1) := by decide +kernel
theorem dX7_playAlone_0 : decode cX7_playAlone 0 = .ok (.aload_n 0, 1) := by decide +kernel
theorem dX7_playAlone_1 : decode cX7_playAlone 1 = .ok (.getfield 72, 3) := by decide +kernel
theorem dX7_playAlone_4 : decode cX7_playAlone 4 = .ok (.iconst 0, 1) := by decide +kernel
theorem dX7_playAlone_5 : decode cX7_playAlone 5 = .ok (.aload_n 0, 1) := by decide +kernel
theorem dX7_playAlone_6 : decode cX7_playAlone 6 = .ok (.iload_n 1, 1) := by decide +kernel
theorem dX7_playAlone_7 : decode cX7_playAlone 7 = .ok (.bipush 12, 2) := by decide +kernel
theorem dX7_playAlone_9 : decode cX7_playAlone 9 = .ok (.iload_n 2, 1) := by decide +kernel
theorem dX7_playAlone_10 : decode cX7_playAlone 10 = .ok (.invokevirtual 417, 3) := by decide +kernel
theorem dX7_playAlone_13 : decode cX7_playAlone 13 = .ok (.iastore, 1) := by decide +kernel
theorem dX7_playAlone_14 : decode cX7_playAlone 14 = .ok (.aload_n 0, 1) := by decide +kernel
theorem dX7_playAlone_15 : decode cX7_playAlone 15 = .ok (.getfield 72, 3) := by decide +kernel
theorem dX7_playAlone_18 : decode cX7_playAlone 18 = .ok (.iconst 1, 1) := by decide +kernel
theorem dX7_playAlone_19 : decode cX7_playAlone 19 = .ok (.bipush 12, 2) := by decide +kernel
theorem dX7_playAlone_21 : decode cX7_playAlone 21 = .ok (.iastore, 1) := by decide +kernel
theorem dX7_playAlone_22 : decode cX7_playAlone 22 = .ok (.iload_n 2, 1) := by decide +kernel
theorem dX7_playAlone_23 : decode cX7_playAlone 23 = .ok (.iconst 1, 1) := by decide +kernel
theorem dX7_playAlone_24 : decode cX7_playAlone 24 = .ok (.if_icmp .ge 4, 3) := by decide +kernel
theorem dX7_playAlone_27 : decode cX7_playAlone 27 = .ok (.return_, 1) := by decide +kernel
theorem dX7_playAlone_28 : decode cX7_playAlone 28 = .ok (.iconst 0, 1) := by decide +kernel
theorem dX7_playAlone_29 : decode cX7_playAlone 29 = .ok (.istore_n 3, 1) := by decide +kernel
theorem dX7_playAlone_30 : decode cX7_playAlone 30 = .ok (.iload_n 3, 1) := by decide +kernel
theorem dX7_playAlone_31 : decode cX7_playAlone 31 = .ok (.aload_n 0, 1) := by decide +kernel
theorem dX7_playAlone_32 : decode cX7_playAlone 32 = .ok (.getfield 10, 3) := by decide +kernel
theorem dX7_playAlone_35 : decode cX7_playAlone 35 = .ok (.getfield 100, 3) := by decide +kernel
theorem dX7_playAlone_38 : decode cX7_playAlone 38 = .ok (.if_icmp .ge 60, 3) := by decide +kernel
theorem dX7_playAlone_41 : decode cX7_playAlone 41 = .ok (.aload_n 0, 1) := by decide +kernel
theorem dX7_playAlone_42 : decode cX7_playAlone 42 = .ok (.getfield 10, 3) := by decide +kernel
theorem dX7_playAlone_45 : decode cX7_playAlone 45 = .ok (.getfield 203, 3) := by decide +kernel
theorem dX7_playAlone_48 : decode cX7_playAlone 48 = .ok (.iload_n 3, 1) := by decide +kernel
theorem dX7_playAlone_49 : decode cX7_playAlone 49 = .ok (.iaload, 1) := by decide +kernel
theorem dX7_playAlone_50 : decode cX7_playAlone 50 = .ok (.iload_n 1, 1) := by decide +kernel
theorem dX7_playAlone_51 : decode cX7_playAlone 51 = .ok (.if_icmp .eq 6, 3) := by decide +kernel
theorem dX7_playAlone_54 : decode cX7_playAlone 54 = .ok (.goto 38, 3) := by decide +kernel
theorem dX7_playAlone_57 : decode cX7_playAlone 57 = .ok (.aload_n 0, 1) := by decide +kernel
theorem dX7_playAlone_58 : decode cX7_playAlone 58 = .ok (.iload_n 1, 1) := by decide +kernel
theorem dX7_playAlone_59 : decode cX7_playAlone 59 = .ok (.iload_n 3, 1) := by decide +kernel
theorem dX7_playAlone_60 : decode cX7_playAlone 60 = .ok (.iload_n 2, 1) := by decide +kernel
theorem dX7_playAlone_61 : decode cX7_playAlone 61 = .ok (.invokevirtual 417, 3) := by decide +kernel
theorem dX7_playAlone_64 : decode cX7_playAlone 64 = .ok (.istore 4, 2) := by decide +kernel
theorem dX7_playAlone_66 : decode cX7_playAlone 66 = .ok (.iload 4, 2) := by decide +kernel
theorem dX7_playAlone_68 : decode cX7_playAlone 68 = .ok (.aload_n 0, 1) := by decide +kernel
theorem dX7_playAlone_69 : decode cX7_playAlone 69 = .ok (.getfield 72, 3) := by decide +kernel
theorem dX7_playAlone_72 : decode cX7_playAlone 72 = .ok (.iconst 0, 1) := by decide +kernel
theorem dX7_playAlone_73 : decode cX7_playAlone 73 = .ok (.iaload, 1) := by decide +kernel
theorem dX7_playAlone_74 : decode cX7_playAlone 74 = .ok (.if_icmp .le 18, 3) := by decide +kernel
theorem dX7_playAlone_77 : decode cX7_playAlone 77 = .ok (.aload_n 0, 1) := by decide +kernel
theorem dX7_playAlone_78 : decode cX7_playAlone 78 = .ok (.getfield 72, 3) := by decide +kernel
theorem dX7_playAlone_81 : decode cX7_playAlone 81 = .ok (.iconst 0, 1) := by decide +kernel
theorem dX7_playAlone_82 : decode cX7_playAlone 82 = .ok (.iload 4, 2) := by decide +kernel
theorem dX7_playAlone_84 : decode cX7_playAlone 84 = .ok (.iastore, 1) := by decide +kernel
theorem dX7_playAlone_85 : decode cX7_playAlone 85 = .ok (.aload_n 0, 1) := by decide +kernel
theorem dX7_playAlone_86 : decode cX7_playAlone 86 = .ok (.getfield 72, 3) := by decide +kernel
theorem dX7_playAlone_89 : decode cX7_playAlone 89 = .ok (.iconst 1, 1) := by decide +kernel
theorem dX7_playAlone_90 : decode cX7_playAlone 90 = .ok (.iload_n 3, 1) := by decide +kernel
theorem dX7_playAlone_91 : decode cX7_playAlone 91 = .ok (.iastore, 1) := by decide +kernel
theorem dX7_playAlone_92 : decode cX7_playAlone 92 = .ok (.iinc 3 1, 3) := by decide +kernel
theorem dX7_playAlone_95 : decode cX7_playAlone 95 = .ok (.goto (-65), 3) := by decide +kernel
theorem dX7_playAlone_98 : decode cX7_playAlone 98 = .ok (.return_, 1) := by decide +kernel
theorem dX7_numberBehind_0 : decode cX7_numberBehind 0 = .ok (.aload_n 0, 1) := by decide +kernel
theorem dX7_numberBehind_1 : decode cX7_numberBehind 1 = .ok (.getfield 10, 3) := by decide +kernel
theorem dX7_numberBehind_4 : decode cX7_numberBehind 4 = .ok (.getfield 200, 3) := by decide +kernel
theorem dX7_numberBehind_7 : decode cX7_numberBehind 7 = .ok (.iload_n 1, 1) := by decide +kernel
theorem dX7_numberBehind_8 : decode cX7_numberBehind 8 = .ok (.iaload, 1) := by decide +kernel
theorem dX7_numberBehind_9 : decode cX7_numberBehind 9 = .ok (.istore 4, 2) := by decide +kernel
theorem dX7_numberBehind_11 : decode cX7_numberBehind 11 = .ok (.aload_n 0, 1) := by decide +kernel
theorem dX7_numberBehind_12 : decode cX7_numberBehind 12 = .ok (.getfield 30, 3) := by decide +kernel
theorem dX7_numberBehind_15 : decode cX7_numberBehind 15 = .ok (.getfield 169, 3) := by decide +kernel
theorem dX7_numberBehind_18 : decode cX7_numberBehind 18 = .ok (.iload 4, 2) := by decide +kernel
theorem dX7_numberBehind_20 : decode cX7_numberBehind 20 = .ok (.iaload, 1) := by decide +kernel
theorem dX7_numberBehind_21 : decode cX7_numberBehind 21 = .ok (.istore 5, 2) := by decide +kernel
theorem dX7_numberBehind_23 : decode cX7_numberBehind 23 = .ok (.aload_n 0, 1) := by decide +kernel
theorem dX7_numberBehind_24 : decode cX7_numberBehind 24 = .ok (.getfield 10, 3) := by decide +kernel
theorem dX7_numberBehind_27 : decode cX7_numberBehind 27 = .ok (.iload_n 2, 1) := by decide +kernel
theorem dX7_numberBehind_28 : decode cX7_numberBehind 28 = .ok (.invokevirtual 153, 3) := by decide +kernel
theorem dX7_numberBehind_31 : decode cX7_numberBehind 31 = .ok (.ifCond .eq 21, 3) := by decide +kernel
theorem dX7_numberBehind_34 : decode cX7_numberBehind 34 = .ok (.aload_n 0, 1) := by decide +kernel
theorem dX7_numberBehind_35 : decode cX7_numberBehind 35 = .ok (.aload_n 0, 1) := by decide +kernel
theorem dX7_numberBehind_36 : decode cX7_numberBehind 36 = .ok (.getfield 30, 3) := by decide +kernel
theorem dX7_numberBehind_39 : decode cX7_numberBehind 39 = .ok (.iload_n 2, 1) := by decide +kernel
theorem dX7_numberBehind_40 : decode cX7_numberBehind 40 = .ok (.iload 4, 2) := by decide +kernel
theorem dX7_numberBehind_42 : decode cX7_numberBehind 42 = .ok (.invokevirtual 191, 3) := by decide +kernel
theorem dX7_numberBehind_45 : decode cX7_numberBehind 45 = .ok (.ifCond .eq 7, 3) := by decide +kernel
theorem dX7_numberBehind_48 : decode cX7_numberBehind 48 = .ok (.iconst 1, 1) := by decide +kernel
theorem dX7_numberBehind_49 : decode cX7_numberBehind 49 = .ok (.goto 4, 3) := by decide +kernel
theorem dX7_numberBehind_52 : decode cX7_numberBehind 52 = .ok (.iconst 0, 1) := by decide +kernel
theorem dX7_numberBehind_53 : decode cX7_numberBehind 53 = .ok (.istore 6, 2) := by decide +kernel
theorem dX7_numberBehind_55 : decode cX7_numberBehind 55 = .ok (.aload_n 0, 1) := by decide +kernel
theorem dX7_numberBehind_56 : decode cX7_numberBehind 56 = .ok (.getfield 30, 3) := by decide +kernel
theorem dX7_numberBehind_59 : decode cX7_numberBehind 59 = .ok (.getfield 169, 3) := by decide +kernel
theorem dX7_numberBehind_62 : decode cX7_numberBehind 62 = .ok (.iload 4, 2) := by decide +kernel
theorem dX7_numberBehind_64 : decode cX7_numberBehind 64 = .ok (.iaload, 1) := by decide +kernel
theorem dX7_numberBehind_65 : decode cX7_numberBehind 65 = .ok (.istore 7, 2) := by decide +kernel
theorem dX7_numberBehind_67 : decode cX7_numberBehind 67 = .ok (.iload_n 3, 1) := by decide +kernel
theorem dX7_numberBehind_68 : decode cX7_numberBehind 68 = .ok (.iconst 1, 1) := by decide +kernel
theorem dX7_numberBehind_69 : decode cX7_numberBehind 69 = .ok (.if_icmp .le 15, 3) := by decide +kernel
theorem dX7_numberBehind_72 : decode cX7_numberBehind 72 = .ok (.iload 7, 2) := by decide +kernel
theorem dX7_numberBehind_74 : decode cX7_numberBehind 74 = .ok (.aload_n 0, 1) := by decide +kernel
theorem dX7_numberBehind_75 : decode cX7_numberBehind 75 = .ok (.iload_n 1, 1) := by decide +kernel
theorem dX7_numberBehind_76 : decode cX7_numberBehind 76 = .ok (.iload 4, 2) := by decide +kernel
theorem dX7_numberBehind_78 : decode cX7_numberBehind 78 = .ok (.invokevirtual 420, 3) := by decide +kernel
theorem dX7_numberBehind_81 : decode cX7_numberBehind 81 = .ok (.iadd, 1) := by decide +kernel
theorem dX7_numberBehind_82 : decode cX7_numberBehind 82 = .ok (.istore 7, 2) := by decide +kernel
theorem dX7_numberBehind_84 : decode cX7_numberBehind 84 = .ok (.aload_n 0, 1) := by decide +kernel
theorem dX7_numberBehind_85 : decode cX7_numberBehind 85 = .ok (.getfield 30, 3) := by decide +kernel
theorem dX7_numberBehind_88 : decode cX7_numberBehind 88 = .ok (.getfield 169, 3) := by decide +kernel
theorem dX7_numberBehind_91 : decode cX7_numberBehind 91 = .ok (.iload 4, 2) := by decide +kernel
theorem dX7_numberBehind_93 : decode cX7_numberBehind 93 = .ok (.iload 5, 2) := by decide +kernel
theorem dX7_numberBehind_95 : decode cX7_numberBehind 95 = .ok (.iastore, 1) := by decide +kernel
theorem dX7_numberBehind_96 : decode cX7_numberBehind 96 = .ok (.iload 6, 2) := by decide +kernel
theorem dX7_numberBehind_98 : decode cX7_numberBehind 98 = .ok (.ifCond .eq 12, 3) := by decide +kernel
theorem dX7_numberBehind_101 : decode cX7_numberBehind 101 = .ok (.aload_n 0, 1) := by decide +kernel
theorem dX7_numberBehind_102 : decode cX7_numberBehind 102 = .ok (.getfield 30, 3) := by decide +kernel
theorem dX7_numberBehind_105 : decode cX7_numberBehind 105 = .ok (.iload_n 2, 1) := by decide +kernel
theorem dX7_numberBehind_106 : decode cX7_numberBehind 106 = .ok (.iconst 0, 1) := by decide +kernel
theorem dX7_numberBehind_107 : decode cX7_numberBehind 107 = .ok (.invokevirtual 377, 3) := by decide +kernel
theorem dX7_numberBehind_110 : decode cX7_numberBehind 110 = .ok (.sipush 999, 3) := by decide +kernel
theorem dX7_numberBehind_113 : decode cX7_numberBehind 113 = .ok (.iload 7, 2) := by decide +kernel
theorem dX7_numberBehind_115 : decode cX7_numberBehind 115 = .ok (.invokestatic 393, 3) := by decide +kernel
theorem dX7_numberBehind_118 : decode cX7_numberBehind 118 = .ok (.ireturn, 1) := by decide +kernel
theorem dX7_mostOf_0 : decode cX7_mostOf 0 = .ok (.iconst 0, 1) := by decide +kernel
theorem dX7_mostOf_1 : decode cX7_mostOf 1 = .ok (.istore_n 3, 1) := by decide +kernel
theorem dX7_mostOf_2 : decode cX7_mostOf 2 = .ok (.iconst 0, 1) := by decide +kernel
theorem dX7_mostOf_3 : decode cX7_mostOf 3 = .ok (.istore 4, 2) := by decide +kernel
theorem dX7_mostOf_5 : decode cX7_mostOf 5 = .ok (.iload 4, 2) := by decide +kernel
theorem dX7_mostOf_7 : decode cX7_mostOf 7 = .ok (.aload_n 0, 1) := by decide +kernel
theorem dX7_mostOf_8 : decode cX7_mostOf 8 = .ok (.getfield 10, 3) := by decide +kernel
theorem dX7_mostOf_11 : decode cX7_mostOf 11 = .ok (.getfield 100, 3) := by decide +kernel
theorem dX7_mostOf_14 : decode cX7_mostOf 14 = .ok (.if_icmp .ge 60, 3) := by decide +kernel
theorem dX7_mostOf_17 : decode cX7_mostOf 17 = .ok (.aload_n 0, 1) := by decide +kernel
theorem dX7_mostOf_18 : decode cX7_mostOf 18 = .ok (.getfield 10, 3) := by decide +kernel
theorem dX7_mostOf_21 : decode cX7_mostOf 21 = .ok (.getfield 203, 3) := by decide +kernel
theorem dX7_mostOf_24 : decode cX7_mostOf 24 = .ok (.iload 4, 2) := by decide +kernel
theorem dX7_mostOf_26 : decode cX7_mostOf 26 = .ok (.iaload, 1) := by decide +kernel
theorem dX7_mostOf_27 : decode cX7_mostOf 27 = .ok (.iload_n 1, 1) := by decide +kernel
theorem dX7_mostOf_28 : decode cX7_mostOf 28 = .ok (.if_icmp .ne 40, 3) := by decide +kernel
theorem dX7_mostOf_31 : decode cX7_mostOf 31 = .ok (.aload_n 0, 1) := by decide +kernel
theorem dX7_mostOf_32 : decode cX7_mostOf 32 = .ok (.getfield 30, 3) := by decide +kernel
theorem dX7_mostOf_35 : decode cX7_mostOf 35 = .ok (.iload 4, 2) := by decide +kernel
theorem dX7_mostOf_37 : decode cX7_mostOf 37 = .ok (.invokevirtual 197, 3) := by decide +kernel
theorem dX7_mostOf_40 : decode cX7_mostOf 40 = .ok (.ifCond .eq 6, 3) := by decide +kernel
theorem dX7_mostOf_43 : decode cX7_mostOf 43 = .ok (.goto 25, 3) := by decide +kernel
theorem dX7_mostOf_46 : decode cX7_mostOf 46 = .ok (.aload_n 0, 1) := by decide +kernel
theorem dX7_mostOf_47 : decode cX7_mostOf 47 = .ok (.aload_n 0, 1) := by decide +kernel
theorem dX7_mostOf_48 : decode cX7_mostOf 48 = .ok (.getfield 30, 3) := by decide +kernel
theorem dX7_mostOf_51 : decode cX7_mostOf 51 = .ok (.iload 4, 2) := by decide +kernel
theorem dX7_mostOf_53 : decode cX7_mostOf 53 = .ok (.iload_n 2, 1) := by decide +kernel
theorem dX7_mostOf_54 : decode cX7_mostOf 54 = .ok (.invokevirtual 156, 3) := by decide +kernel
theorem dX7_mostOf_57 : decode cX7_mostOf 57 = .ok (.istore 5, 2) := by decide +kernel
theorem dX7_mostOf_59 : decode cX7_mostOf 59 = .ok (.iload 5, 2) := by decide +kernel
theorem dX7_mostOf_61 : decode cX7_mostOf 61 = .ok (.iload_n 3, 1) := by decide +kernel
theorem dX7_mostOf_62 : decode cX7_mostOf 62 = .ok (.if_icmp .le 6, 3) := by decide +kernel
theorem dX7_mostOf_65 : decode cX7_mostOf 65 = .ok (.iload 5, 2) := by decide +kernel
theorem dX7_mostOf_67 : decode cX7_mostOf 67 = .ok (.istore_n 3, 1) := by decide +kernel
theorem dX7_mostOf_68 : decode cX7_mostOf 68 = .ok (.iinc 4 1, 3) := by decide +kernel
theorem dX7_mostOf_71 : decode cX7_mostOf 71 = .ok (.goto (-66), 3) := by decide +kernel
theorem dX7_mostOf_74 : decode cX7_mostOf 74 = .ok (.iload_n 3, 1) := by decide +kernel
theorem dX7_mostOf_75 : decode cX7_mostOf 75 = .ok (.ireturn, 1) := by decide +kernel
theorem dX7_liveDay_0 : decode cX7_liveDay 0 = .ok (.aload_n 0, 1) := by decide +kernel
theorem dX7_liveDay_1 : decode cX7_liveDay 1 = .ok (.getfield 10, 3) := by decide +kernel
theorem dX7_liveDay_4 : decode cX7_liveDay 4 = .ok (.getfield 100, 3) := by decide +kernel
theorem dX7_liveDay_7 : decode cX7_liveDay 7 = .ok (.ifCond .le 55, 3) := by decide +kernel
theorem dX7_liveDay_10 : decode cX7_liveDay 10 = .ok (.iload_n 1, 1) := by decide +kernel
theorem dX7_liveDay_11 : decode cX7_liveDay 11 = .ok (.bipush 8, 2) := by decide +kernel
theorem dX7_liveDay_13 : decode cX7_liveDay 13 = .ok (.iushr, 1) := by decide +kernel
theorem dX7_liveDay_14 : decode cX7_liveDay 14 = .ok (.aload_n 0, 1) := by decide +kernel
theorem dX7_liveDay_15 : decode cX7_liveDay 15 = .ok (.getfield 10, 3) := by decide +kernel
theorem dX7_liveDay_18 : decode cX7_liveDay 18 = .ok (.getfield 100, 3) := by decide +kernel
theorem dX7_liveDay_21 : decode cX7_liveDay 21 = .ok (.irem, 1) := by decide +kernel
theorem dX7_liveDay_22 : decode cX7_liveDay 22 = .ok (.istore_n 2, 1) := by decide +kernel
theorem dX7_liveDay_23 : decode cX7_liveDay 23 = .ok (.aload_n 0, 1) := by decide +kernel
theorem dX7_liveDay_24 : decode cX7_liveDay 24 = .ok (.getfield 30, 3) := by decide +kernel
theorem dX7_liveDay_27 : decode cX7_liveDay 27 = .ok (.iload_n 2, 1) := by decide +kernel
theorem dX7_liveDay_28 : decode cX7_liveDay 28 = .ok (.invokevirtual 197, 3) := by decide +kernel
theorem dX7_liveDay_31 : decode cX7_liveDay 31 = .ok (.ifCond .eq 14, 3) := by decide +kernel
theorem dX7_liveDay_34 : decode cX7_liveDay 34 = .ok (.aload_n 0, 1) := by decide +kernel
theorem dX7_liveDay_35 : decode cX7_liveDay 35 = .ok (.getfield 30, 3) := by decide +kernel
theorem dX7_liveDay_38 : decode cX7_liveDay 38 = .ok (.iload_n 2, 1) := by decide +kernel
theorem dX7_liveDay_39 : decode cX7_liveDay 39 = .ok (.invokevirtual 266, 3) := by decide +kernel
theorem dX7_liveDay_42 : decode cX7_liveDay 42 = .ok (.goto 20, 3) := by decide +kernel
theorem dX7_liveDay_45 : decode cX7_liveDay 45 = .ok (.aload_n 0, 1) := by decide +kernel
theorem dX7_liveDay_46 : decode cX7_liveDay 46 = .ok (.aload_n 0, 1) := by decide +kernel
theorem dX7_liveDay_47 : decode cX7_liveDay 47 = .ok (.getfield 30, 3) := by decide +kernel
theorem dX7_liveDay_50 : decode cX7_liveDay 50 = .ok (.iload_n 2, 1) := by decide +kernel
theorem dX7_liveDay_51 : decode cX7_liveDay 51 = .ok (.iload_n 1, 1) := by decide +kernel
theorem dX7_liveDay_52 : decode cX7_liveDay 52 = .ok (.bipush 16, 2) := by decide +kernel
theorem dX7_liveDay_54 : decode cX7_liveDay 54 = .ok (.iushr, 1) := by decide +kernel
theorem dX7_liveDay_55 : decode cX7_liveDay 55 = .ok (.bipush 12, 2) := by decide +kernel
theorem dX7_liveDay_57 : decode cX7_liveDay 57 = .ok (.irem, 1) := by decide +kernel
theorem dX7_liveDay_58 : decode cX7_liveDay 58 = .ok (.invokevirtual 191, 3) := by decide +kernel
theorem dX7_liveDay_61 : decode cX7_liveDay 61 = .ok (.pop, 1) := by decide +kernel
theorem dX7_liveDay_62 : decode cX7_liveDay 62 = .ok (.aload_n 0, 1) := by decide +kernel
theorem dX7_liveDay_63 : decode cX7_liveDay 63 = .ok (.getfield 30, 3) := by decide +kernel
theorem dX7_liveDay_66 : decode cX7_liveDay 66 = .ok (.iconst 1, 1) := by decide +kernel
theorem dX7_liveDay_67 : decode cX7_liveDay 67 = .ok (.invokevirtual 269, 3) := by decide +kernel
theorem dX7_liveDay_70 : decode cX7_liveDay 70 = .ok (.return_, 1) := by decide +kernel
theorem dX8_init_0 : decode cX8_init 0 = .ok (.aload_n 0, 1) := by decide +kernel
theorem dX8_init_1 : decode cX8_init 1 = .ok (.invokespecial 3, 3) := by decide +kernel
theorem dX8_init_4 : decode cX8_init 4 = .ok (.aload_n 0, 1) := by decide +kernel
theorem dX8_init_5 : decode cX8_init 5 = .ok (.bipush 12, 2) := by decide +kernel
theorem dX8_init_7 : decode cX8_init 7 = .ok (.newarray .int, 2) := by decide +kernel
theorem dX8_init_9 : decode cX8_init 9 = .ok (.putfield 9, 3) := by decide +kernel
theorem dX8_init_12 : decode cX8_init 12 = .ok (.aload_n 0, 1) := by decide +kernel
theorem dX8_init_13 : decode cX8_init 13 = .ok (.bipush 10, 2) := by decide +kernel
theorem dX8_init_15 : decode cX8_init 15 = .ok (.newarray .int, 2) := by decide +kernel
theorem dX8_init_17 : decode cX8_init 17 = .ok (.putfield 15, 3) := by decide +kernel
theorem dX8_init_20 : decode cX8_init 20 = .ok (.aload_n 0, 1) := by decide +kernel
theorem dX8_init_21 : decode cX8_init 21 = .ok (.bipush 10, 2) := by decide +kernel
theorem dX8_init_23 : decode cX8_init 23 = .ok (.newarray .int, 2) := by decide +kernel
theorem dX8_init_25 : decode cX8_init 25 = .ok (.putfield 18, 3) := by decide +kernel
theorem dX8_init_28 : decode cX8_init 28 = .ok (.aload_n 0, 1) := by decide +kernel
theorem dX8_init_29 : decode cX8_init 29 = .ok (.bipush 12, 2) := by decide +kernel
theorem dX8_init_31 : decode cX8_init 31 = .ok (.newarray .int, 2) := by decide +kernel
theorem dX8_init_33 : decode cX8_init 33 = .ok (.putfield 21, 3) := by decide +kernel
theorem dX8_init_36 : decode cX8_init 36 = .ok (.aload_n 0, 1) := by decide +kernel
theorem dX8_init_37 : decode cX8_init 37 = .ok (.bipush 12, 2) := by decide +kernel
theorem dX8_init_39 : decode cX8_init 39 = .ok (.newarray .int, 2) := by decide +kernel
theorem dX8_init_41 : decode cX8_init 41 = .ok (.putfield 24, 3) := by decide +kernel
theorem dX8_init_44 : decode cX8_init 44 = .ok (.aload_n 0, 1) := by decide +kernel
theorem dX8_init_45 : decode cX8_init 45 = .ok (.bipush 12, 2) := by decide +kernel
theorem dX8_init_47 : decode cX8_init 47 = .ok (.newarray .int, 2) := by decide +kernel
theorem dX8_init_49 : decode cX8_init 49 = .ok (.putfield 27, 3) := by decide +kernel
theorem dX8_init_52 : decode cX8_init 52 = .ok (.aload_n 0, 1) := by decide +kernel
theorem dX8_init_53 : decode cX8_init 53 = .ok (.bipush 12, 2) := by decide +kernel
theorem dX8_init_55 : decode cX8_init 55 = .ok (.newarray .int, 2) := by decide +kernel
theorem dX8_init_57 : decode cX8_init 57 = .ok (.putfield 30, 3) := by decide +kernel
theorem dX8_init_60 : decode cX8_init 60 = .ok (.aload_n 0, 1) := by decide +kernel
theorem dX8_init_61 : decode cX8_init 61 = .ok (.bipush 12, 2) := by decide +kernel
theorem dX8_init_63 : decode cX8_init 63 = .ok (.newarray .int, 2) := by decide +kernel
theorem dX8_init_65 : decode cX8_init 65 = .ok (.putfield 33, 3) := by decide +kernel
theorem dX8_init_68 : decode cX8_init 68 = .ok (.aload_n 0, 1) := by decide +kernel
theorem dX8_init_69 : decode cX8_init 69 = .ok (.bipush 120, 2) := by decide +kernel
theorem dX8_init_71 : decode cX8_init 71 = .ok (.newarray .int, 2) := by decide +kernel
theorem dX8_init_73 : decode cX8_init 73 = .ok (.putfield 36, 3) := by decide +kernel
theorem dX8_init_76 : decode cX8_init 76 = .ok (.aload_n 0, 1) := by decide +kernel
theorem dX8_init_77 : decode cX8_init 77 = .ok (.bipush 60, 2) := by decide +kernel
theorem dX8_init_79 : decode cX8_init 79 = .ok (.newarray .int, 2) := by decide +kernel
theorem dX8_init_81 : decode cX8_init 81 = .ok (.putfield 39, 3) := by decide +kernel
theorem dX8_init_84 : decode cX8_init 84 = .ok (.aload_n 0, 1) := by decide +kernel
theorem dX8_init_85 : decode cX8_init 85 = .ok (.bipush 60, 2) := by decide +kernel
theorem dX8_init_87 : decode cX8_init 87 = .ok (.newarray .int, 2) := by decide +kernel
theorem dX8_init_89 : decode cX8_init 89 = .ok (.putfield 42, 3) := by decide +kernel
theorem dX8_init_92 : decode cX8_init 92 = .ok (.aload_n 0, 1) := by decide +kernel
theorem dX8_init_93 : decode cX8_init 93 = .ok (.bipush 60, 2) := by decide +kernel
theorem dX8_init_95 : decode cX8_init 95 = .ok (.newarray .int, 2) := by decide +kernel
theorem dX8_init_97 : decode cX8_init 97 = .ok (.putfield 45, 3) := by decide +kernel
theorem dX8_init_100 : decode cX8_init 100 = .ok (.aload_n 0, 1) := by decide +kernel
theorem dX8_init_101 : decode cX8_init 101 = .ok (.sipush 200, 3) := by decide +kernel
theorem dX8_init_104 : decode cX8_init 104 = .ok (.newarray .int, 2) := by decide +kernel
theorem dX8_init_106 : decode cX8_init 106 = .ok (.putfield 48, 3) := by decide +kernel
theorem dX8_init_109 : decode cX8_init 109 = .ok (.aload_n 0, 1) := by decide +kernel
theorem dX8_init_110 : decode cX8_init 110 = .ok (.bipush 61, 2) := by decide +kernel
theorem dX8_init_112 : decode cX8_init 112 = .ok (.newarray .int, 2) := by decide +kernel
theorem dX8_init_114 : decode cX8_init 114 = .ok (.putfield 51, 3) := by decide +kernel
theorem dX8_init_117 : decode cX8_init 117 = .ok (.aload_n 0, 1) := by decide +kernel
theorem dX8_init_118 : decode cX8_init 118 = .ok (.bipush 61, 2) := by decide +kernel
theorem dX8_init_120 : decode cX8_init 120 = .ok (.newarray .int, 2) := by decide +kernel
theorem dX8_init_122 : decode cX8_init 122 = .ok (.putfield 54, 3) := by decide +kernel
theorem dX8_init_125 : decode cX8_init 125 = .ok (.aload_n 0, 1) := by decide +kernel
theorem dX8_init_126 : decode cX8_init 126 = .ok (.bipush 61, 2) := by decide +kernel
theorem dX8_init_128 : decode cX8_init 128 = .ok (.newarray .int, 2) := by decide +kernel
theorem dX8_init_130 : decode cX8_init 130 = .ok (.putfield 57, 3) := by decide +kernel
theorem dX8_init_133 : decode cX8_init 133 = .ok (.aload_n 0, 1) := by decide +kernel
theorem dX8_init_134 : decode cX8_init 134 = .ok (.sipush 200, 3) := by decide +kernel
theorem dX8_init_137 : decode cX8_init 137 = .ok (.newarray .int, 2) := by decide +kernel
theorem dX8_init_139 : decode cX8_init 139 = .ok (.putfield 60, 3) := by decide +kernel
theorem dX8_init_142 : decode cX8_init 142 = .ok (.aload_n 0, 1) := by decide +kernel
theorem dX8_init_143 : decode cX8_init 143 = .ok (.sipush 200, 3) := by decide +kernel
theorem dX8_init_146 : decode cX8_init 146 = .ok (.newarray .int, 2) := by decide +kernel
theorem dX8_init_148 : decode cX8_init 148 = .ok (.putfield 63, 3) := by decide +kernel
theorem dX8_init_151 : decode cX8_init 151 = .ok (.aload_n 0, 1) := by decide +kernel
theorem dX8_init_152 : decode cX8_init 152 = .ok (.bipush 6, 2) := by decide +kernel
theorem dX8_init_154 : decode cX8_init 154 = .ok (.newarray .int, 2) := by decide +kernel
theorem dX8_init_156 : decode cX8_init 156 = .ok (.putfield 66, 3) := by decide +kernel
theorem dX8_init_159 : decode cX8_init 159 = .ok (.aload_n 0, 1) := by decide +kernel
theorem dX8_init_160 : decode cX8_init 160 = .ok (.bipush 6, 2) := by decide +kernel
theorem dX8_init_162 : decode cX8_init 162 = .ok (.newarray .int, 2) := by decide +kernel
theorem dX8_init_164 : decode cX8_init 164 = .ok (.putfield 69, 3) := by decide +kernel
theorem dX8_init_167 : decode cX8_init 167 = .ok (.aload_n 0, 1) := by decide +kernel
theorem dX8_init_168 : decode cX8_init 168 = .ok (.bipush 37, 2) := by decide +kernel
theorem dX8_init_170 : decode cX8_init 170 = .ok (.newarray .int, 2) := by decide +kernel
theorem dX8_init_172 : decode cX8_init 172 = .ok (.putfield 72, 3) := by decide +kernel
theorem dX8_init_175 : decode cX8_init 175 = .ok (.aload_n 0, 1) := by decide +kernel
theorem dX8_init_176 : decode cX8_init 176 = .ok (.bipush 6, 2) := by decide +kernel
theorem dX8_init_178 : decode cX8_init 178 = .ok (.newarray .int, 2) := by decide +kernel
theorem dX8_init_180 : decode cX8_init 180 = .ok (.putfield 75, 3) := by decide +kernel
theorem dX8_init_183 : decode cX8_init 183 = .ok (.aload_n 0, 1) := by decide +kernel
theorem dX8_init_184 : decode cX8_init 184 = .ok (.sipush 160, 3) := by decide +kernel
theorem dX8_init_187 : decode cX8_init 187 = .ok (.newarray .int, 2) := by decide +kernel
theorem dX8_init_189 : decode cX8_init 189 = .ok (.putfield 78, 3) := by decide +kernel
theorem dX8_init_192 : decode cX8_init 192 = .ok (.aload_n 0, 1) := by decide +kernel
theorem dX8_init_193 : decode cX8_init 193 = .ok (.bipush 50, 2) := by decide +kernel
theorem dX8_init_195 : decode cX8_init 195 = .ok (.newarray .int, 2) := by decide +kernel
theorem dX8_init_197 : decode cX8_init 197 = .ok (.putfield 81, 3) := by decide +kernel
theorem dX8_init_200 : decode cX8_init 200 = .ok (.aload_n 0, 1) := by decide +kernel
theorem dX8_init_201 : decode cX8_init 201 = .ok (.bipush 24, 2) := by decide +kernel
theorem dX8_init_203 : decode cX8_init 203 = .ok (.newarray .int, 2) := by decide +kernel
theorem dX8_init_205 : decode cX8_init 205 = .ok (.putfield 84, 3) := by decide +kernel
theorem dX8_init_208 : decode cX8_init 208 = .ok (.aload_n 0, 1) := by decide +kernel
theorem dX8_init_209 : decode cX8_init 209 = .ok (.bipush 6, 2) := by decide +kernel
theorem dX8_init_211 : decode cX8_init 211 = .ok (.newarray .int, 2) := by decide +kernel
theorem dX8_init_213 : decode cX8_init 213 = .ok (.putfield 87, 3) := by decide +kernel
theorem dX8_init_216 : decode cX8_init 216 = .ok (.aload_n 0, 1) := by decide +kernel
theorem dX8_init_217 : decode cX8_init 217 = .ok (.bipush 6, 2) := by decide +kernel
theorem dX8_init_219 : decode cX8_init 219 = .ok (.newarray .int, 2) := by decide +kernel
theorem dX8_init_221 : decode cX8_init 221 = .ok (.putfield 90, 3) := by decide +kernel
theorem dX8_init_224 : decode cX8_init 224 = .ok (.aload_n 0, 1) := by decide +kernel
theorem dX8_init_225 : decode cX8_init 225 = .ok (.sipush 360, 3) := by decide +kernel
theorem dX8_init_228 : decode cX8_init 228 = .ok (.newarray .long, 2) := by decide +kernel
theorem dX8_init_230 : decode cX8_init 230 = .ok (.putfield 93, 3) := by decide +kernel
theorem dX8_init_233 : decode cX8_init 233 = .ok (.aload_n 0, 1) := by decide +kernel
theorem dX8_init_234 : decode cX8_init 234 = .ok (.bipush 37, 2) := by decide +kernel
theorem dX8_init_236 : decode cX8_init 236 = .ok (.newarray .int, 2) := by decide +kernel
theorem dX8_init_238 : decode cX8_init 238 = .ok (.putfield 97, 3) := by decide +kernel
theorem dX8_init_241 : decode cX8_init 241 = .ok (.aload_n 0, 1) := by decide +kernel
theorem dX8_init_242 : decode cX8_init 242 = .ok (.bipush 37, 2) := by decide +kernel
theorem dX8_init_244 : decode cX8_init 244 = .ok (.newarray .int, 2) := by decide +kernel
theorem dX8_init_246 : decode cX8_init 246 = .ok (.putfield 100, 3) := by decide +kernel
theorem dX8_init_249 : decode cX8_init 249 = .ok (.aload_n 0, 1) := by decide +kernel
theorem dX8_init_250 : decode cX8_init 250 = .ok (.iconst 2, 1) := by decide +kernel
theorem dX8_init_251 : decode cX8_init 251 = .ok (.newarray .int, 2) := by decide +kernel
theorem dX8_init_253 : decode cX8_init 253 = .ok (.putfield 103, 3) := by decide +kernel
theorem dX8_init_256 : decode cX8_init 256 = .ok (.aload_n 0, 1) := by decide +kernel
theorem dX8_init_257 : decode cX8_init 257 = .ok (.bipush 10, 2) := by decide +kernel
theorem dX8_init_259 : decode cX8_init 259 = .ok (.newarray .int, 2) := by decide +kernel
theorem dX8_init_261 : decode cX8_init 261 = .ok (.putfield 106, 3) := by decide +kernel
theorem dX8_init_264 : decode cX8_init 264 = .ok (.iconst 0, 1) := by decide +kernel
theorem dX8_init_265 : decode cX8_init 265 = .ok (.istore_n 1, 1) := by decide +kernel
theorem dX8_init_266 : decode cX8_init 266 = .ok (.iload_n 1, 1) := by decide +kernel
theorem dX8_init_267 : decode cX8_init 267 = .ok (.bipush 6, 2) := by decide +kernel
theorem dX8_init_269 : decode cX8_init 269 = .ok (.if_icmp .ge 16, 3) := by decide +kernel
theorem dX8_init_272 : decode cX8_init 272 = .ok (.aload_n 0, 1) := by decide +kernel
theorem dX8_init_273 : decode cX8_init 273 = .ok (.getfield 87, 3) := by decide +kernel
theorem dX8_init_276 : decode cX8_init 276 = .ok (.iload_n 1, 1) := by decide +kernel
theorem dX8_init_277 : decode cX8_init 277 = .ok (.iconst (-1), 1) := by decide +kernel
theorem dX8_init_278 : decode cX8_init 278 = .ok (.iastore, 1) := by decide +kernel
theorem dX8_init_279 : decode cX8_init 279 = .ok (.iinc 1 1, 3) := by decide +kernel
theorem dX8_init_282 : decode cX8_init 282 = .ok (.goto (-16), 3) := by decide +kernel
theorem dX8_init_285 : decode cX8_init 285 = .ok (.return_, 1) := by decide +kernel
theorem dX8_within_0 : decode cX8_within 0 = .ok (.iload_n 0, 1) := by decide +kernel
theorem dX8_within_1 : decode cX8_within 1 = .ok (.iload_n 1, 1) := by decide +kernel
theorem dX8_within_2 : decode cX8_within 2 = .ok (.if_icmp .lt 12, 3) := by decide +kernel
theorem dX8_within_5 : decode cX8_within 5 = .ok (.iload_n 0, 1) := by decide +kernel
theorem dX8_within_6 : decode cX8_within 6 = .ok (.iload_n 2, 1) := by decide +kernel
theorem dX8_within_7 : decode cX8_within 7 = .ok (.if_icmp .gt 7, 3) := by decide +kernel
theorem dX8_within_10 : decode cX8_within 10 = .ok (.iconst 1, 1) := by decide +kernel
theorem dX8_within_11 : decode cX8_within 11 = .ok (.goto 4, 3) := by decide +kernel
theorem dX8_within_14 : decode cX8_within 14 = .ok (.iconst 0, 1) := by decide +kernel
theorem dX8_within_15 : decode cX8_within 15 = .ok (.ireturn, 1) := by decide +kernel
theorem dX8_isHouse_0 : decode cX8_isHouse 0 = .ok (.iload_n 0, 1) := by decide +kernel
theorem dX8_isHouse_1 : decode cX8_isHouse 1 = .ok (.iconst 0, 1) := by decide +kernel
theorem dX8_isHouse_2 : decode cX8_isHouse 2 = .ok (.bipush 11, 2) := by decide +kernel
theorem dX8_isHouse_4 : decode cX8_isHouse 4 = .ok (.invokestatic 109, 3) := by decide +kernel
theorem dX8_isHouse_7 : decode cX8_isHouse 7 = .ok (.ireturn, 1) := by decide +kernel
theorem dX8_isOne_0 : decode cX8_isOne 0 = .ok (.iload_n 1, 1) := by decide +kernel
theorem dX8_isOne_1 : decode cX8_isOne 1 = .ok (.iconst 0, 1) := by decide +kernel
theorem dX8_isOne_2 : decode cX8_isOne 2 = .ok (.aload_n 0, 1) := by decide +kernel
theorem dX8_isOne_3 : decode cX8_isOne 3 = .ok (.getfield 113, 3) := by decide +kernel
theorem dX8_isOne_6 : decode cX8_isOne 6 = .ok (.iconst 1, 1) := by decide +kernel
theorem dX8_isOne_7 : decode cX8_isOne 7 = .ok (.isub, 1) := by decide +kernel
theorem dX8_isOne_8 : decode cX8_isOne 8 = .ok (.invokestatic 109, 3) := by decide +kernel
theorem dX8_isOne_11 : decode cX8_isOne 11 = .ok (.ireturn, 1) := by decide +kernel
theorem dX8_isWrong_0 : decode cX8_isWrong 0 = .ok (.iload_n 1, 1) := by decide +kernel
theorem dX8_isWrong_1 : decode cX8_isWrong 1 = .ok (.iconst 0, 1) := by decide +kernel
theorem dX8_isWrong_2 : decode cX8_isWrong 2 = .ok (.aload_n 0, 1) := by decide +kernel
theorem dX8_isWrong_3 : decode cX8_isWrong 3 = .ok (.getfield 117, 3) := by decide +kernel
theorem dX8_isWrong_6 : decode cX8_isWrong 6 = .ok (.iconst 1, 1) := by decide +kernel
theorem dX8_isWrong_7 : decode cX8_isWrong 7 = .ok (.isub, 1) := by decide +kernel
theorem dX8_isWrong_8 : decode cX8_isWrong 8 = .ok (.invokestatic 109, 3) := by decide +kernel
theorem dX8_isWrong_11 : decode cX8_isWrong 11 = .ok (.ireturn, 1) := by decide +kernel
theorem dX8_isShelf_0 : decode cX8_isShelf 0 = .ok (.iload_n 0, 1) := by decide +kernel
theorem dX8_isShelf_1 : decode cX8_isShelf 1 = .ok (.iconst 0, 1) := by decide +kernel
theorem dX8_isShelf_2 : decode cX8_isShelf 2 = .ok (.iconst 5, 1) := by decide +kernel
theorem dX8_isShelf_3 : decode cX8_isShelf 3 = .ok (.invokestatic 109, 3) := by decide +kernel
theorem dX8_isShelf_6 : decode cX8_isShelf 6 = .ok (.ireturn, 1) := by decide +kernel
theorem dX8_person_0 : decode cX8_person 0 = .ok (.iload_n 1, 1) := by decide +kernel
theorem dX8_person_1 : decode cX8_person 1 = .ok (.invokestatic 120, 3) := by decide +kernel
theorem dX8_person_4 : decode cX8_person 4 = .ok (.ifCond .ne 5, 3) := by decide +kernel
theorem dX8_person_7 : decode cX8_person 7 = .ok (.iconst (-1), 1) := by decide +kernel
theorem dX8_person_8 : decode cX8_person 8 = .ok (.ireturn, 1) := by decide +kernel
theorem dX8_person_9 : decode cX8_person 9 = .ok (.aload_n 0, 1) := by decide +kernel
theorem dX8_person_10 : decode cX8_person 10 = .ok (.getfield 113, 3) := by decide +kernel
theorem dX8_person_13 : decode cX8_person 13 = .ok (.bipush 10, 2) := by decide +kernel
theorem dX8_person_15 : decode cX8_person 15 = .ok (.if_icmp .ne 6, 3) := by decide +kernel
theorem dX8_person_18 : decode cX8_person 18 = .ok (.bipush (-3), 2) := by decide +kernel
theorem dX8_person_20 : decode cX8_person 20 = .ok (.ireturn, 1) := by decide +kernel
theorem dX8_person_21 : decode cX8_person 21 = .ok (.aload_n 0, 1) := by decide +kernel
theorem dX8_person_22 : decode cX8_person 22 = .ok (.getfield 15, 3) := by decide +kernel
theorem dX8_person_25 : decode cX8_person 25 = .ok (.aload_n 0, 1) := by decide +kernel
theorem dX8_person_26 : decode cX8_person 26 = .ok (.getfield 113, 3) := by decide +kernel
theorem dX8_person_29 : decode cX8_person 29 = .ok (.iload_n 1, 1) := by decide +kernel
theorem dX8_person_30 : decode cX8_person 30 = .ok (.iastore, 1) := by decide +kernel
theorem dX8_person_31 : decode cX8_person 31 = .ok (.aload_n 0, 1) := by decide +kernel
theorem dX8_person_32 : decode cX8_person 32 = .ok (.getfield 18, 3) := by decide +kernel
theorem dX8_person_35 : decode cX8_person 35 = .ok (.aload_n 0, 1) := by decide +kernel
theorem dX8_person_36 : decode cX8_person 36 = .ok (.getfield 113, 3) := by decide +kernel
theorem dX8_person_39 : decode cX8_person 39 = .ok (.bipush 6, 2) := by decide +kernel
theorem dX8_person_41 : decode cX8_person 41 = .ok (.iastore, 1) := by decide +kernel
theorem dX8_person_42 : decode cX8_person 42 = .ok (.aload_n 0, 1) := by decide +kernel
theorem dX8_person_43 : decode cX8_person 43 = .ok (.dup, 1) := by decide +kernel
theorem dX8_person_44 : decode cX8_person 44 = .ok (.getfield 113, 3) := by decide +kernel
theorem dX8_person_47 : decode cX8_person 47 = .ok (.dup_x1, 1) := by decide +kernel
theorem dX8_person_48 : decode cX8_person 48 = .ok (.iconst 1, 1) := by decide +kernel
theorem dX8_person_49 : decode cX8_person 49 = .ok (.iadd, 1) := by decide +kernel
theorem dX8_person_50 : decode cX8_person 50 = .ok (.putfield 113, 3) := by decide +kernel
theorem dX8_person_53 : decode cX8_person 53 = .ok (.ireturn, 1) := by decide +kernel
theorem dX8_isSuch_0 : decode cX8_isSuch 0 = .ok (.aload_n 0, 1) := by decide +kernel
theorem dX8_isSuch_1 : decode cX8_isSuch 1 = .ok (.iload_n 1, 1) := by decide +kernel
theorem dX8_isSuch_2 : decode cX8_isSuch 2 = .ok (.invokevirtual 124, 3) := by decide +kernel
theorem dX8_isSuch_5 : decode cX8_isSuch 5 = .ok (.ifCond .eq 30, 3) := by decide +kernel
theorem dX8_isSuch_8 : decode cX8_isSuch 8 = .ok (.aload_n 0, 1) := by decide +kernel
theorem dX8_isSuch_9 : decode cX8_isSuch 9 = .ok (.iload_n 2, 1) := by decide +kernel
theorem dX8_isSuch_10 : decode cX8_isSuch 10 = .ok (.invokevirtual 124, 3) := by decide +kernel
theorem dX8_isSuch_13 : decode cX8_isSuch 13 = .ok (.ifCond .eq 22, 3) := by decide +kernel
theorem dX8_isSuch_16 : decode cX8_isSuch 16 = .ok (.iload_n 1, 1) := by decide +kernel
theorem dX8_isSuch_17 : decode cX8_isSuch 17 = .ok (.iload_n 2, 1) := by decide +kernel
theorem dX8_isSuch_18 : decode cX8_isSuch 18 = .ok (.if_icmp .eq 17, 3) := by decide +kernel
theorem dX8_isSuch_21 : decode cX8_isSuch 21 = .ok (.iload_n 3, 1) := by decide +kernel
theorem dX8_isSuch_22 : decode cX8_isSuch 22 = .ok (.iconst 1, 1) := by decide +kernel
theorem dX8_isSuch_23 : decode cX8_isSuch 23 = .ok (.bipush 9, 2) := by decide +kernel
theorem dX8_isSuch_25 : decode cX8_isSuch 25 = .ok (.invokestatic 109, 3) := by decide +kernel
theorem dX8_isSuch_28 : decode cX8_isSuch 28 = .ok (.ifCond .eq 7, 3) := by decide +kernel
theorem dX8_isSuch_31 : decode cX8_isSuch 31 = .ok (.iconst 1, 1) := by decide +kernel
theorem dX8_isSuch_32 : decode cX8_isSuch 32 = .ok (.goto 4, 3) := by decide +kernel
theorem dX8_isSuch_35 : decode cX8_isSuch 35 = .ok (.iconst 0, 1) := by decide +kernel
theorem dX8_isSuch_36 : decode cX8_isSuch 36 = .ok (.ireturn, 1) := by decide +kernel
theorem dX8_newWrong_0 : decode cX8_newWrong 0 = .ok (.aload_n 0, 1) := by decide +kernel
theorem dX8_newWrong_1 : decode cX8_newWrong 1 = .ok (.getfield 21, 3) := by decide +kernel
theorem dX8_newWrong_4 : decode cX8_newWrong 4 = .ok (.aload_n 0, 1) := by decide +kernel
theorem dX8_newWrong_5 : decode cX8_newWrong 5 = .ok (.getfield 117, 3) := by decide +kernel
theorem dX8_newWrong_8 : decode cX8_newWrong 8 = .ok (.iload_n 1, 1) := by decide +kernel
theorem dX8_newWrong_9 : decode cX8_newWrong 9 = .ok (.iastore, 1) := by decide +kernel
theorem dX8_newWrong_10 : decode cX8_newWrong 10 = .ok (.aload_n 0, 1) := by decide +kernel
theorem dX8_newWrong_11 : decode cX8_newWrong 11 = .ok (.getfield 24, 3) := by decide +kernel
theorem dX8_newWrong_14 : decode cX8_newWrong 14 = .ok (.aload_n 0, 1) := by decide +kernel
theorem dX8_newWrong_15 : decode cX8_newWrong 15 = .ok (.getfield 117, 3) := by decide +kernel
theorem dX8_newWrong_18 : decode cX8_newWrong 18 = .ok (.iload_n 2, 1) := by decide +kernel
theorem dX8_newWrong_19 : decode cX8_newWrong 19 = .ok (.iastore, 1) := by decide +kernel
theorem dX8_newWrong_20 : decode cX8_newWrong 20 = .ok (.aload_n 0, 1) := by decide +kernel
theorem dX8_newWrong_21 : decode cX8_newWrong 21 = .ok (.getfield 27, 3) := by decide +kernel
theorem dX8_newWrong_24 : decode cX8_newWrong 24 = .ok (.aload_n 0, 1) := by decide +kernel
theorem dX8_newWrong_25 : decode cX8_newWrong 25 = .ok (.getfield 117, 3) := by decide +kernel
theorem dX8_newWrong_28 : decode cX8_newWrong 28 = .ok (.iload_n 3, 1) := by decide +kernel
theorem dX8_newWrong_29 : decode cX8_newWrong 29 = .ok (.iastore, 1) := by decide +kernel
theorem dX8_newWrong_30 : decode cX8_newWrong 30 = .ok (.aload_n 0, 1) := by decide +kernel
theorem dX8_newWrong_31 : decode cX8_newWrong 31 = .ok (.getfield 30, 3) := by decide +kernel
theorem dX8_newWrong_34 : decode cX8_newWrong 34 = .ok (.aload_n 0, 1) := by decide +kernel
theorem dX8_newWrong_35 : decode cX8_newWrong 35 = .ok (.getfield 117, 3) := by decide +kernel
theorem dX8_newWrong_38 : decode cX8_newWrong 38 = .ok (.aload_n 0, 1) := by decide +kernel
theorem dX8_newWrong_39 : decode cX8_newWrong 39 = .ok (.getfield 127, 3) := by decide +kernel
theorem dX8_newWrong_42 : decode cX8_newWrong 42 = .ok (.iastore, 1) := by decide +kernel
theorem dX8_newWrong_43 : decode cX8_newWrong 43 = .ok (.aload_n 0, 1) := by decide +kernel
theorem dX8_newWrong_44 : decode cX8_newWrong 44 = .ok (.getfield 33, 3) := by decide +kernel
theorem dX8_newWrong_47 : decode cX8_newWrong 47 = .ok (.aload_n 0, 1) := by decide +kernel
theorem dX8_newWrong_48 : decode cX8_newWrong 48 = .ok (.getfield 117, 3) := by decide +kernel
theorem dX8_newWrong_51 : decode cX8_newWrong 51 = .ok (.iconst 0, 1) := by decide +kernel
theorem dX8_newWrong_52 : decode cX8_newWrong 52 = .ok (.iastore, 1) := by decide +kernel
theorem dX8_newWrong_53 : decode cX8_newWrong 53 = .ok (.aload_n 0, 1) := by decide +kernel
theorem dX8_newWrong_54 : decode cX8_newWrong 54 = .ok (.dup, 1) := by decide +kernel
theorem dX8_newWrong_55 : decode cX8_newWrong 55 = .ok (.getfield 117, 3) := by decide +kernel
theorem dX8_newWrong_58 : decode cX8_newWrong 58 = .ok (.dup_x1, 1) := by decide +kernel
theorem dX8_newWrong_59 : decode cX8_newWrong 59 = .ok (.iconst 1, 1) := by decide +kernel
theorem dX8_newWrong_60 : decode cX8_newWrong 60 = .ok (.iadd, 1) := by decide +kernel
theorem dX8_newWrong_61 : decode cX8_newWrong 61 = .ok (.putfield 117, 3) := by decide +kernel
theorem dX8_newWrong_64 : decode cX8_newWrong 64 = .ok (.ireturn, 1) := by decide +kernel
theorem dX8_wrong_0 : decode cX8_wrong 0 = .ok (.iload_n 1, 1) := by decide +kernel
theorem dX8_wrong_1 : decode cX8_wrong 1 = .ok (.ifCond .lt 19, 3) := by decide +kernel
theorem dX8_wrong_4 : decode cX8_wrong 4 = .ok (.aload_n 0, 1) := by decide +kernel
theorem dX8_wrong_5 : decode cX8_wrong 5 = .ok (.iload_n 1, 1) := by decide +kernel
theorem dX8_wrong_6 : decode cX8_wrong 6 = .ok (.bipush 10, 2) := by decide +kernel
theorem dX8_wrong_8 : decode cX8_wrong 8 = .ok (.idiv, 1) := by decide +kernel
theorem dX8_wrong_9 : decode cX8_wrong 9 = .ok (.iload_n 1, 1) := by decide +kernel
theorem dX8_wrong_10 : decode cX8_wrong 10 = .ok (.bipush 10, 2) := by decide +kernel
theorem dX8_wrong_12 : decode cX8_wrong 12 = .ok (.irem, 1) := by decide +kernel
theorem dX8_wrong_13 : decode cX8_wrong 13 = .ok (.iload_n 2, 1) := by decide +kernel
theorem dX8_wrong_14 : decode cX8_wrong 14 = .ok (.invokevirtual 130, 3) := by decide +kernel
theorem dX8_wrong_17 : decode cX8_wrong 17 = .ok (.ifCond .ne 5, 3) := by decide +kernel
theorem dX8_wrong_20 : decode cX8_wrong 20 = .ok (.iconst (-1), 1) := by decide +kernel
theorem dX8_wrong_21 : decode cX8_wrong 21 = .ok (.ireturn, 1) := by decide +kernel
theorem dX8_wrong_22 : decode cX8_wrong 22 = .ok (.aload_n 0, 1) := by decide +kernel
theorem dX8_wrong_23 : decode cX8_wrong 23 = .ok (.getfield 117, 3) := by decide +kernel
theorem dX8_wrong_26 : decode cX8_wrong 26 = .ok (.bipush 12, 2) := by decide +kernel
theorem dX8_wrong_28 : decode cX8_wrong 28 = .ok (.if_icmp .ne 8, 3) := by decide +kernel
theorem dX8_wrong_31 : decode cX8_wrong 31 = .ok (.bipush (-3), 2) := by decide +kernel
theorem dX8_wrong_33 : decode cX8_wrong 33 = .ok (.goto 16, 3) := by decide +kernel
theorem dX8_wrong_36 : decode cX8_wrong 36 = .ok (.aload_n 0, 1) := by decide +kernel
theorem dX8_wrong_37 : decode cX8_wrong 37 = .ok (.iload_n 1, 1) := by decide +kernel
theorem dX8_wrong_38 : decode cX8_wrong 38 = .ok (.bipush 10, 2) := by decide +kernel
theorem dX8_wrong_40 : decode cX8_wrong 40 = .ok (.idiv, 1) := by decide +kernel
theorem dX8_wrong_41 : decode cX8_wrong 41 = .ok (.iload_n 1, 1) := by decide +kernel
theorem dX8_wrong_42 : decode cX8_wrong 42 = .ok (.bipush 10, 2) := by decide +kernel
theorem dX8_wrong_44 : decode cX8_wrong 44 = .ok (.irem, 1) := by decide +kernel
theorem dX8_wrong_45 : decode cX8_wrong 45 = .ok (.iload_n 2, 1) := by decide +kernel
theorem dX8_wrong_46 : decode cX8_wrong 46 = .ok (.invokevirtual 133, 3) := by decide +kernel
theorem dX8_wrong_49 : decode cX8_wrong 49 = .ok (.ireturn, 1) := by decide +kernel
theorem dX8_wrongs_0 : decode cX8_wrongs 0 = .ok (.iload_n 1, 1) := by decide +kernel
theorem dX8_wrongs_1 : decode cX8_wrongs 1 = .ok (.invokestatic 137, 3) := by decide +kernel
theorem dX8_wrongs_4 : decode cX8_wrongs 4 = .ok (.ifCond .eq 13, 3) := by decide +kernel
theorem dX8_wrongs_7 : decode cX8_wrongs 7 = .ok (.iload_n 3, 1) := by decide +kernel
theorem dX8_wrongs_8 : decode cX8_wrongs 8 = .ok (.iconst 1, 1) := by decide +kernel
theorem dX8_wrongs_9 : decode cX8_wrongs 9 = .ok (.bipush 12, 2) := by decide +kernel
theorem dX8_wrongs_11 : decode cX8_wrongs 11 = .ok (.invokestatic 109, 3) := by decide +kernel
theorem dX8_wrongs_14 : decode cX8_wrongs 14 = .ok (.ifCond .ne 5, 3) := by decide +kernel
theorem dX8_wrongs_17 : decode cX8_wrongs 17 = .ok (.iconst (-1), 1) := by decide +kernel
theorem dX8_wrongs_18 : decode cX8_wrongs 18 = .ok (.ireturn, 1) := by decide +kernel
theorem dX8_wrongs_19 : decode cX8_wrongs 19 = .ok (.aload_n 0, 1) := by decide +kernel
theorem dX8_wrongs_20 : decode cX8_wrongs 20 = .ok (.getfield 87, 3) := by decide +kernel
theorem dX8_wrongs_23 : decode cX8_wrongs 23 = .ok (.iload_n 1, 1) := by decide +kernel
theorem dX8_wrongs_24 : decode cX8_wrongs 24 = .ok (.iaload, 1) := by decide +kernel
theorem dX8_wrongs_25 : decode cX8_wrongs 25 = .ok (.iconst (-1), 1) := by decide +kernel
theorem dX8_wrongs_26 : decode cX8_wrongs 26 = .ok (.if_icmp .ne 5, 3) := by decide +kernel
theorem dX8_wrongs_29 : decode cX8_wrongs 29 = .ok (.iconst 0, 1) := by decide +kernel
theorem dX8_wrongs_30 : decode cX8_wrongs 30 = .ok (.ireturn, 1) := by decide +kernel
theorem dX8_wrongs_31 : decode cX8_wrongs 31 = .ok (.aload_n 0, 1) := by decide +kernel
theorem dX8_wrongs_32 : decode cX8_wrongs 32 = .ok (.getfield 87, 3) := by decide +kernel
theorem dX8_wrongs_35 : decode cX8_wrongs 35 = .ok (.iload_n 1, 1) := by decide +kernel
theorem dX8_wrongs_36 : decode cX8_wrongs 36 = .ok (.iaload, 1) := by decide +kernel
theorem dX8_wrongs_37 : decode cX8_wrongs 37 = .ok (.ifCond .eq 6, 3) := by decide +kernel
theorem dX8_wrongs_40 : decode cX8_wrongs 40 = .ok (.bipush (-12), 2) := by decide +kernel
theorem dX8_wrongs_42 : decode cX8_wrongs 42 = .ok (.ireturn, 1) := by decide +kernel
theorem dX8_wrongs_43 : decode cX8_wrongs 43 = .ok (.iconst 0, 1) := by decide +kernel
theorem dX8_wrongs_44 : decode cX8_wrongs 44 = .ok (.istore 4, 2) := by decide +kernel
theorem dX8_wrongs_46 : decode cX8_wrongs 46 = .ok (.iconst 0, 1) := by decide +kernel
theorem dX8_wrongs_47 : decode cX8_wrongs 47 = .ok (.istore 5, 2) := by decide +kernel
theorem dX8_wrongs_49 : decode cX8_wrongs 49 = .ok (.iload 5, 2) := by decide +kernel
theorem dX8_wrongs_51 : decode cX8_wrongs 51 = .ok (.iload_n 3, 1) := by decide +kernel
theorem dX8_wrongs_52 : decode cX8_wrongs 52 = .ok (.if_icmp .ge 130, 3) := by decide +kernel
theorem dX8_wrongs_55 : decode cX8_wrongs 55 = .ok (.iload_n 2, 1) := by decide +kernel
theorem dX8_wrongs_56 : decode cX8_wrongs 56 = .ok (.i2l, 1) := by decide +kernel
theorem dX8_wrongs_57 : decode cX8_wrongs 57 = .ok (.ldc2_w 140, 3) := by decide +kernel
theorem dX8_wrongs_60 : decode cX8_wrongs 60 = .ok (.iload 5, 2) := by decide +kernel
theorem dX8_wrongs_62 : decode cX8_wrongs 62 = .ok (.i2l, 1) := by decide +kernel
theorem dX8_wrongs_63 : decode cX8_wrongs 63 = .ok (.lmul, 1) := by decide +kernel
theorem dX8_wrongs_64 : decode cX8_wrongs 64 = .ok (.ladd, 1) := by decide +kernel
theorem dX8_wrongs_65 : decode cX8_wrongs 65 = .ok (.lstore 6, 2) := by decide +kernel
theorem dX8_wrongs_67 : decode cX8_wrongs 67 = .ok (.lload 6, 2) := by decide +kernel
theorem dX8_wrongs_69 : decode cX8_wrongs 69 = .ok (.lconst 0, 1) := by decide +kernel
theorem dX8_wrongs_70 : decode cX8_wrongs 70 = .ok (.lcmp, 1) := by decide +kernel
theorem dX8_wrongs_71 : decode cX8_wrongs 71 = .ok (.ifCond .lt 29, 3) := by decide +kernel
theorem dX8_wrongs_74 : decode cX8_wrongs 74 = .ok (.lload 6, 2) := by decide +kernel
theorem dX8_wrongs_76 : decode cX8_wrongs 76 = .ok (.ldc2_w 140, 3) := by decide +kernel
theorem dX8_wrongs_79 : decode cX8_wrongs 79 = .ok (.ladd, 1) := by decide +kernel
theorem dX8_wrongs_80 : decode cX8_wrongs 80 = .ok (.aload_n 0, 1) := by decide +kernel
theorem dX8_wrongs_81 : decode cX8_wrongs 81 = .ok (.getfield 90, 3) := by decide +kernel
theorem dX8_wrongs_84 : decode cX8_wrongs 84 = .ok (.iload_n 1, 1) := by decide +kernel
theorem dX8_wrongs_85 : decode cX8_wrongs 85 = .ok (.iaload, 1) := by decide +kernel
theorem dX8_wrongs_86 : decode cX8_wrongs 86 = .ok (.i2l, 1) := by decide +kernel
theorem dX8_wrongs_87 : decode cX8_wrongs 87 = .ok (.lcmp, 1) := by decide +kernel
theorem dX8_wrongs_88 : decode cX8_wrongs 88 = .ok (.ifCond .gt 12, 3) := by decide +kernel
theorem dX8_wrongs_91 : decode cX8_wrongs 91 = .ok (.aload_n 0, 1) := by decide +kernel
theorem dX8_wrongs_92 : decode cX8_wrongs 92 = .ok (.getfield 117, 3) := by decide +kernel
theorem dX8_wrongs_95 : decode cX8_wrongs 95 = .ok (.bipush 12, 2) := by decide +kernel
theorem dX8_wrongs_97 : decode cX8_wrongs 97 = .ok (.if_icmp .ne 6, 3) := by decide +kernel
theorem dX8_wrongs_100 : decode cX8_wrongs 100 = .ok (.iload 4, 2) := by decide +kernel
theorem dX8_wrongs_102 : decode cX8_wrongs 102 = .ok (.ireturn, 1) := by decide +kernel
theorem dX8_wrongs_103 : decode cX8_wrongs 103 = .ok (.lload 6, 2) := by decide +kernel
theorem dX8_wrongs_105 : decode cX8_wrongs 105 = .ok (.l2i, 1) := by decide +kernel
theorem dX8_wrongs_106 : decode cX8_wrongs 106 = .ok (.istore 8, 2) := by decide +kernel
theorem dX8_wrongs_108 : decode cX8_wrongs 108 = .ok (.aload_n 0, 1) := by decide +kernel
theorem dX8_wrongs_109 : decode cX8_wrongs 109 = .ok (.aload_n 0, 1) := by decide +kernel
theorem dX8_wrongs_110 : decode cX8_wrongs 110 = .ok (.iload_n 1, 1) := by decide +kernel
theorem dX8_wrongs_111 : decode cX8_wrongs 111 = .ok (.iload 8, 2) := by decide +kernel
theorem dX8_wrongs_113 : decode cX8_wrongs 113 = .ok (.invokevirtual 142, 3) := by decide +kernel
theorem dX8_wrongs_116 : decode cX8_wrongs 116 = .ok (.aload_n 0, 1) := by decide +kernel
theorem dX8_wrongs_117 : decode cX8_wrongs 117 = .ok (.iload_n 1, 1) := by decide +kernel
theorem dX8_wrongs_118 : decode cX8_wrongs 118 = .ok (.iload 8, 2) := by decide +kernel
theorem dX8_wrongs_120 : decode cX8_wrongs 120 = .ok (.iconst 1, 1) := by decide +kernel
theorem dX8_wrongs_121 : decode cX8_wrongs 121 = .ok (.iadd, 1) := by decide +kernel
theorem dX8_wrongs_122 : decode cX8_wrongs 122 = .ok (.invokevirtual 142, 3) := by decide +kernel
theorem dX8_wrongs_125 : decode cX8_wrongs 125 = .ok (.aload_n 0, 1) := by decide +kernel
theorem dX8_wrongs_126 : decode cX8_wrongs 126 = .ok (.iload_n 1, 1) := by decide +kernel
theorem dX8_wrongs_127 : decode cX8_wrongs 127 = .ok (.iload 8, 2) := by decide +kernel
theorem dX8_wrongs_129 : decode cX8_wrongs 129 = .ok (.iconst 2, 1) := by decide +kernel
theorem dX8_wrongs_130 : decode cX8_wrongs 130 = .ok (.iadd, 1) := by decide +kernel
theorem dX8_wrongs_131 : decode cX8_wrongs 131 = .ok (.invokevirtual 142, 3) := by decide +kernel
theorem dX8_wrongs_134 : decode cX8_wrongs 134 = .ok (.invokevirtual 130, 3) := by decide +kernel
theorem dX8_wrongs_137 : decode cX8_wrongs 137 = .ok (.ifCond .ne 6, 3) := by decide +kernel
theorem dX8_wrongs_140 : decode cX8_wrongs 140 = .ok (.iload 4, 2) := by decide +kernel
theorem dX8_wrongs_142 : decode cX8_wrongs 142 = .ok (.ireturn, 1) := by decide +kernel
theorem dX8_wrongs_143 : decode cX8_wrongs 143 = .ok (.aload_n 0, 1) := by decide +kernel
theorem dX8_wrongs_144 : decode cX8_wrongs 144 = .ok (.aload_n 0, 1) := by decide +kernel
theorem dX8_wrongs_145 : decode cX8_wrongs 145 = .ok (.iload_n 1, 1) := by decide +kernel
theorem dX8_wrongs_146 : decode cX8_wrongs 146 = .ok (.iload 8, 2) := by decide +kernel
theorem dX8_wrongs_148 : decode cX8_wrongs 148 = .ok (.invokevirtual 142, 3) := by decide +kernel
theorem dX8_wrongs_151 : decode cX8_wrongs 151 = .ok (.aload_n 0, 1) := by decide +kernel
theorem dX8_wrongs_152 : decode cX8_wrongs 152 = .ok (.iload_n 1, 1) := by decide +kernel
theorem dX8_wrongs_153 : decode cX8_wrongs 153 = .ok (.iload 8, 2) := by decide +kernel
theorem dX8_wrongs_155 : decode cX8_wrongs 155 = .ok (.iconst 1, 1) := by decide +kernel
theorem dX8_wrongs_156 : decode cX8_wrongs 156 = .ok (.iadd, 1) := by decide +kernel
theorem dX8_wrongs_157 : decode cX8_wrongs 157 = .ok (.invokevirtual 142, 3) := by decide +kernel
theorem dX8_wrongs_160 : decode cX8_wrongs 160 = .ok (.aload_n 0, 1) := by decide +kernel
theorem dX8_wrongs_161 : decode cX8_wrongs 161 = .ok (.iload_n 1, 1) := by decide +kernel
theorem dX8_wrongs_162 : decode cX8_wrongs 162 = .ok (.iload 8, 2) := by decide +kernel
theorem dX8_wrongs_164 : decode cX8_wrongs 164 = .ok (.iconst 2, 1) := by decide +kernel
theorem dX8_wrongs_165 : decode cX8_wrongs 165 = .ok (.iadd, 1) := by decide +kernel
theorem dX8_wrongs_166 : decode cX8_wrongs 166 = .ok (.invokevirtual 142, 3) := by decide +kernel
theorem dX8_wrongs_169 : decode cX8_wrongs 169 = .ok (.invokevirtual 133, 3) := by decide +kernel
theorem dX8_wrongs_172 : decode cX8_wrongs 172 = .ok (.pop, 1) := by decide +kernel
theorem dX8_wrongs_173 : decode cX8_wrongs 173 = .ok (.iinc 4 1, 3) := by decide +kernel
theorem dX8_wrongs_176 : decode cX8_wrongs 176 = .ok (.iinc 5 1, 3) := by decide +kernel
theorem dX8_wrongs_179 : decode cX8_wrongs 179 = .ok (.goto (-130), 3) := by decide +kernel
theorem dX8_wrongs_182 : decode cX8_wrongs 182 = .ok (.iload 4, 2) := by decide +kernel
theorem dX8_wrongs_184 : decode cX8_wrongs 184 = .ok (.ireturn, 1) := by decide +kernel
theorem dX8_toldAt_0 : decode cX8_toldAt 0 = .ok (.aload_n 0, 1) := by decide +kernel
theorem dX8_toldAt_1 : decode cX8_toldAt 1 = .ok (.getfield 93, 3) := by decide +kernel
theorem dX8_toldAt_4 : decode cX8_toldAt 4 = .ok (.bipush 60, 2) := by decide +kernel
theorem dX8_toldAt_6 : decode cX8_toldAt 6 = .ok (.iload_n 1, 1) := by decide +kernel
theorem dX8_toldAt_7 : decode cX8_toldAt 7 = .ok (.imul, 1) := by decide +kernel
theorem dX8_toldAt_8 : decode cX8_toldAt 8 = .ok (.iload_n 2, 1) := by decide +kernel
theorem dX8_toldAt_9 : decode cX8_toldAt 9 = .ok (.iadd, 1) := by decide +kernel
theorem dX8_toldAt_10 : decode cX8_toldAt 10 = .ok (.laload, 1) := by decide +kernel
theorem dX8_toldAt_11 : decode cX8_toldAt 11 = .ok (.l2i, 1) := by decide +kernel
theorem dX8_toldAt_12 : decode cX8_toldAt 12 = .ok (.ireturn, 1) := by decide +kernel
theorem dX8_isOf_0 : decode cX8_isOf 0 = .ok (.iload_n 2, 1) := by decide +kernel
theorem dX8_isOf_1 : decode cX8_isOf 1 = .ok (.ifCond .ne 10, 3) := by decide +kernel
theorem dX8_isOf_4 : decode cX8_isOf 4 = .ok (.iload_n 1, 1) := by decide +kernel
theorem dX8_isOf_5 : decode cX8_isOf 5 = .ok (.invokestatic 120, 3) := by decide +kernel
theorem dX8_isOf_8 : decode cX8_isOf 8 = .ok (.goto 52, 3) := by decide +kernel
theorem dX8_isOf_11 : decode cX8_isOf 11 = .ok (.iload_n 2, 1) := by decide +kernel
theorem dX8_isOf_12 : decode cX8_isOf 12 = .ok (.iconst 1, 1) := by decide +kernel
theorem dX8_isOf_13 : decode cX8_isOf 13 = .ok (.iconst 2, 1) := by decide +kernel
theorem dX8_isOf_14 : decode cX8_isOf 14 = .ok (.invokestatic 109, 3) := by decide +kernel
theorem dX8_isOf_17 : decode cX8_isOf 17 = .ok (.ifCond .eq 11, 3) := by decide +kernel
theorem dX8_isOf_20 : decode cX8_isOf 20 = .ok (.aload_n 0, 1) := by decide +kernel
theorem dX8_isOf_21 : decode cX8_isOf 21 = .ok (.iload_n 1, 1) := by decide +kernel
theorem dX8_isOf_22 : decode cX8_isOf 22 = .ok (.invokevirtual 124, 3) := by decide +kernel
theorem dX8_isOf_25 : decode cX8_isOf 25 = .ok (.goto 35, 3) := by decide +kernel
theorem dX8_isOf_28 : decode cX8_isOf 28 = .ok (.iload_n 2, 1) := by decide +kernel
theorem dX8_isOf_29 : decode cX8_isOf 29 = .ok (.iconst 3, 1) := by decide +kernel
theorem dX8_isOf_30 : decode cX8_isOf 30 = .ok (.iconst 5, 1) := by decide +kernel
theorem dX8_isOf_31 : decode cX8_isOf 31 = .ok (.invokestatic 109, 3) := by decide +kernel
theorem dX8_isOf_34 : decode cX8_isOf 34 = .ok (.ifCond .eq 11, 3) := by decide +kernel
theorem dX8_isOf_37 : decode cX8_isOf 37 = .ok (.aload_n 0, 1) := by decide +kernel
theorem dX8_isOf_38 : decode cX8_isOf 38 = .ok (.iload_n 1, 1) := by decide +kernel
theorem dX8_isOf_39 : decode cX8_isOf 39 = .ok (.invokevirtual 146, 3) := by decide +kernel
theorem dX8_isOf_42 : decode cX8_isOf 42 = .ok (.goto 18, 3) := by decide +kernel
theorem dX8_isOf_45 : decode cX8_isOf 45 = .ok (.iload_n 2, 1) := by decide +kernel
theorem dX8_isOf_46 : decode cX8_isOf 46 = .ok (.bipush 6, 2) := by decide +kernel
theorem dX8_isOf_48 : decode cX8_isOf 48 = .ok (.if_icmp .ne 11, 3) := by decide +kernel
theorem dX8_isOf_51 : decode cX8_isOf 51 = .ok (.iload_n 1, 1) := by decide +kernel
theorem dX8_isOf_52 : decode cX8_isOf 52 = .ok (.ifCond .ne 7, 3) := by decide +kernel
theorem dX8_isOf_55 : decode cX8_isOf 55 = .ok (.iconst 1, 1) := by decide +kernel
theorem dX8_isOf_56 : decode cX8_isOf 56 = .ok (.goto 4, 3) := by decide +kernel
theorem dX8_isOf_59 : decode cX8_isOf 59 = .ok (.iconst 0, 1) := by decide +kernel
theorem dX8_isOf_60 : decode cX8_isOf 60 = .ok (.ireturn, 1) := by decide +kernel
theorem dX8_isFit_0 : decode cX8_isFit 0 = .ok (.iload_n 0, 1) := by decide +kernel
theorem dX8_isFit_1 : decode cX8_isFit 1 = .ok (.tableswitch 76 0 5 #[39, 48, 53, 61, 76, 69], 39) := by decide +kernel
theorem dX8_isFit_40 : decode cX8_isFit 40 = .ok (.iload_n 1, 1) := by decide +kernel
theorem dX8_isFit_41 : decode cX8_isFit 41 = .ok (.iconst 0, 1) := by decide +kernel
theorem dX8_isFit_42 : decode cX8_isFit 42 = .ok (.sipush 999, 3) := by decide +kernel
theorem dX8_isFit_45 : decode cX8_isFit 45 = .ok (.invokestatic 109, 3) := by decide +kernel
theorem dX8_isFit_48 : decode cX8_isFit 48 = .ok (.ireturn, 1) := by decide +kernel
theorem dX8_isFit_49 : decode cX8_isFit 49 = .ok (.iload_n 1, 1) := by decide +kernel
theorem dX8_isFit_50 : decode cX8_isFit 50 = .ok (.invokestatic 120, 3) := by decide +kernel
theorem dX8_isFit_53 : decode cX8_isFit 53 = .ok (.ireturn, 1) := by decide +kernel
theorem dX8_isFit_54 : decode cX8_isFit 54 = .ok (.iload_n 1, 1) := by decide +kernel
theorem dX8_isFit_55 : decode cX8_isFit 55 = .ok (.iconst 0, 1) := by decide +kernel
theorem dX8_isFit_56 : decode cX8_isFit 56 = .ok (.bipush 12, 2) := by decide +kernel
theorem dX8_isFit_58 : decode cX8_isFit 58 = .ok (.invokestatic 109, 3) := by decide +kernel
theorem dX8_isFit_61 : decode cX8_isFit 61 = .ok (.ireturn, 1) := by decide +kernel
theorem dX8_isFit_62 : decode cX8_isFit 62 = .ok (.iload_n 1, 1) := by decide +kernel
theorem dX8_isFit_63 : decode cX8_isFit 63 = .ok (.iconst 1, 1) := by decide +kernel
theorem dX8_isFit_64 : decode cX8_isFit 64 = .ok (.bipush 9, 2) := by decide +kernel
theorem dX8_isFit_66 : decode cX8_isFit 66 = .ok (.invokestatic 109, 3) := by decide +kernel
theorem dX8_isFit_69 : decode cX8_isFit 69 = .ok (.ireturn, 1) := by decide +kernel
theorem dX8_isFit_70 : decode cX8_isFit 70 = .ok (.iload_n 1, 1) := by decide +kernel
theorem dX8_isFit_71 : decode cX8_isFit 71 = .ok (.iconst 0, 1) := by decide +kernel
theorem dX8_isFit_72 : decode cX8_isFit 72 = .ok (.iconst 1, 1) := by decide +kernel
theorem dX8_isFit_73 : decode cX8_isFit 73 = .ok (.invokestatic 109, 3) := by decide +kernel
theorem dX8_isFit_76 : decode cX8_isFit 76 = .ok (.ireturn, 1) := by decide +kernel
theorem dX8_isFit_77 : decode cX8_isFit 77 = .ok (.iload_n 1, 1) := by decide +kernel
theorem dX8_isFit_78 : decode cX8_isFit 78 = .ok (.iconst 0, 1) := by decide +kernel
theorem dX8_isFit_79 : decode cX8_isFit 79 = .ok (.bipush 99, 2) := by decide +kernel
theorem dX8_isFit_81 : decode cX8_isFit 81 = .ok (.invokestatic 109, 3) := by decide +kernel
theorem dX8_isFit_84 : decode cX8_isFit 84 = .ok (.ireturn, 1) := by decide +kernel
theorem dX8_get_0 : decode cX8_get 0 = .ok (.iload_n 2, 1) := by decide +kernel
theorem dX8_get_1 : decode cX8_get 1 = .ok (.tableswitch 81 0 5 #[39, 46, 53, 60, 67, 74], 39) := by decide +kernel
theorem dX8_get_40 : decode cX8_get 40 = .ok (.aload_n 0, 1) := by decide +kernel
theorem dX8_get_41 : decode cX8_get 41 = .ok (.getfield 9, 3) := by decide +kernel
theorem dX8_get_44 : decode cX8_get 44 = .ok (.iload_n 1, 1) := by decide +kernel
theorem dX8_get_45 : decode cX8_get 45 = .ok (.iaload, 1) := by decide +kernel
theorem dX8_get_46 : decode cX8_get 46 = .ok (.ireturn, 1) := by decide +kernel
theorem dX8_get_47 : decode cX8_get 47 = .ok (.aload_n 0, 1) := by decide +kernel
theorem dX8_get_48 : decode cX8_get 48 = .ok (.getfield 15, 3) := by decide +kernel
theorem dX8_get_51 : decode cX8_get 51 = .ok (.iload_n 1, 1) := by decide +kernel
theorem dX8_get_52 : decode cX8_get 52 = .ok (.iaload, 1) := by decide +kernel
theorem dX8_get_53 : decode cX8_get 53 = .ok (.ireturn, 1) := by decide +kernel
theorem dX8_get_54 : decode cX8_get 54 = .ok (.aload_n 0, 1) := by decide +kernel
theorem dX8_get_55 : decode cX8_get 55 = .ok (.getfield 18, 3) := by decide +kernel
theorem dX8_get_58 : decode cX8_get 58 = .ok (.iload_n 1, 1) := by decide +kernel
theorem dX8_get_59 : decode cX8_get 59 = .ok (.iaload, 1) := by decide +kernel
theorem dX8_get_60 : decode cX8_get 60 = .ok (.ireturn, 1) := by decide +kernel
theorem dX8_get_61 : decode cX8_get 61 = .ok (.aload_n 0, 1) := by decide +kernel
theorem dX8_get_62 : decode cX8_get 62 = .ok (.getfield 27, 3) := by decide +kernel
theorem dX8_get_65 : decode cX8_get 65 = .ok (.iload_n 1, 1) := by decide +kernel
theorem dX8_get_66 : decode cX8_get 66 = .ok (.iaload, 1) := by decide +kernel
theorem dX8_get_67 : decode cX8_get 67 = .ok (.ireturn, 1) := by decide +kernel
theorem dX8_get_68 : decode cX8_get 68 = .ok (.aload_n 0, 1) := by decide +kernel
theorem dX8_get_69 : decode cX8_get 69 = .ok (.getfield 30, 3) := by decide +kernel
theorem dX8_get_72 : decode cX8_get 72 = .ok (.iload_n 1, 1) := by decide +kernel
theorem dX8_get_73 : decode cX8_get 73 = .ok (.iaload, 1) := by decide +kernel
theorem dX8_get_74 : decode cX8_get 74 = .ok (.ireturn, 1) := by decide +kernel
theorem dX8_get_75 : decode cX8_get 75 = .ok (.aload_n 0, 1) := by decide +kernel
theorem dX8_get_76 : decode cX8_get 76 = .ok (.getfield 33, 3) := by decide +kernel
theorem dX8_get_79 : decode cX8_get 79 = .ok (.iload_n 1, 1) := by decide +kernel
theorem dX8_get_80 : decode cX8_get 80 = .ok (.iaload, 1) := by decide +kernel
theorem dX8_get_81 : decode cX8_get 81 = .ok (.ireturn, 1) := by decide +kernel
theorem dX8_get_82 : decode cX8_get 82 = .ok (.aload_n 0, 1) := by decide +kernel
theorem dX8_get_83 : decode cX8_get 83 = .ok (.getfield 127, 3) := by decide +kernel
theorem dX8_get_86 : decode cX8_get 86 = .ok (.ireturn, 1) := by decide +kernel
theorem dX8_becomes_0 : decode cX8_becomes 0 = .ok (.iload_n 2, 1) := by decide +kernel
theorem dX8_becomes_1 : decode cX8_becomes 1 = .ok (.tableswitch 87 0 5 #[39, 47, 55, 63, 71, 79], 39) := by decide +kernel
theorem dX8_becomes_40 : decode cX8_becomes 40 = .ok (.aload_n 0, 1) := by decide +kernel
theorem dX8_becomes_41 : decode cX8_becomes 41 = .ok (.getfield 9, 3) := by decide +kernel
theorem dX8_becomes_44 : decode cX8_becomes 44 = .ok (.iload_n 1, 1) := by decide +kernel
theorem dX8_becomes_45 : decode cX8_becomes 45 = .ok (.iload_n 3, 1) := by decide +kernel
theorem dX8_becomes_46 : decode cX8_becomes 46 = .ok (.iastore, 1) := by decide +kernel
theorem dX8_becomes_47 : decode cX8_becomes 47 = .ok (.return_, 1) := by decide +kernel
theorem dX8_becomes_48 : decode cX8_becomes 48 = .ok (.aload_n 0, 1) := by decide +kernel
theorem dX8_becomes_49 : decode cX8_becomes 49 = .ok (.getfield 15, 3) := by decide +kernel
theorem dX8_becomes_52 : decode cX8_becomes 52 = .ok (.iload_n 1, 1) := by decide +kernel
theorem dX8_becomes_53 : decode cX8_becomes 53 = .ok (.iload_n 3, 1) := by decide +kernel
theorem dX8_becomes_54 : decode cX8_becomes 54 = .ok (.iastore, 1) := by decide +kernel
theorem dX8_becomes_55 : decode cX8_becomes 55 = .ok (.return_, 1) := by decide +kernel
theorem dX8_becomes_56 : decode cX8_becomes 56 = .ok (.aload_n 0, 1) := by decide +kernel
theorem dX8_becomes_57 : decode cX8_becomes 57 = .ok (.getfield 18, 3) := by decide +kernel
theorem dX8_becomes_60 : decode cX8_becomes 60 = .ok (.iload_n 1, 1) := by decide +kernel
theorem dX8_becomes_61 : decode cX8_becomes 61 = .ok (.iload_n 3, 1) := by decide +kernel
theorem dX8_becomes_62 : decode cX8_becomes 62 = .ok (.iastore, 1) := by decide +kernel
theorem dX8_becomes_63 : decode cX8_becomes 63 = .ok (.return_, 1) := by decide +kernel
theorem dX8_becomes_64 : decode cX8_becomes 64 = .ok (.aload_n 0, 1) := by decide +kernel
theorem dX8_becomes_65 : decode cX8_becomes 65 = .ok (.getfield 27, 3) := by decide +kernel
theorem dX8_becomes_68 : decode cX8_becomes 68 = .ok (.iload_n 1, 1) := by decide +kernel
theorem dX8_becomes_69 : decode cX8_becomes 69 = .ok (.iload_n 3, 1) := by decide +kernel
theorem dX8_becomes_70 : decode cX8_becomes 70 = .ok (.iastore, 1) := by decide +kernel
theorem dX8_becomes_71 : decode cX8_becomes 71 = .ok (.return_, 1) := by decide +kernel
theorem dX8_becomes_72 : decode cX8_becomes 72 = .ok (.aload_n 0, 1) := by decide +kernel
theorem dX8_becomes_73 : decode cX8_becomes 73 = .ok (.getfield 30, 3) := by decide +kernel
theorem dX8_becomes_76 : decode cX8_becomes 76 = .ok (.iload_n 1, 1) := by decide +kernel
theorem dX8_becomes_77 : decode cX8_becomes 77 = .ok (.iload_n 3, 1) := by decide +kernel
theorem dX8_becomes_78 : decode cX8_becomes 78 = .ok (.iastore, 1) := by decide +kernel
theorem dX8_becomes_79 : decode cX8_becomes 79 = .ok (.return_, 1) := by decide +kernel
theorem dX8_becomes_80 : decode cX8_becomes 80 = .ok (.aload_n 0, 1) := by decide +kernel
theorem dX8_becomes_81 : decode cX8_becomes 81 = .ok (.getfield 33, 3) := by decide +kernel
theorem dX8_becomes_84 : decode cX8_becomes 84 = .ok (.iload_n 1, 1) := by decide +kernel
theorem dX8_becomes_85 : decode cX8_becomes 85 = .ok (.iload_n 3, 1) := by decide +kernel
theorem dX8_becomes_86 : decode cX8_becomes 86 = .ok (.iastore, 1) := by decide +kernel
theorem dX8_becomes_87 : decode cX8_becomes 87 = .ok (.return_, 1) := by decide +kernel
theorem dX8_becomes_88 : decode cX8_becomes 88 = .ok (.aload_n 0, 1) := by decide +kernel
theorem dX8_becomes_89 : decode cX8_becomes 89 = .ok (.iload_n 3, 1) := by decide +kernel
theorem dX8_becomes_90 : decode cX8_becomes 90 = .ok (.putfield 127, 3) := by decide +kernel
theorem dX8_becomes_93 : decode cX8_becomes 93 = .ok (.return_, 1) := by decide +kernel
theorem dX8_mend_0 : decode cX8_mend 0 = .ok (.aload_n 0, 1) := by decide +kernel
theorem dX8_mend_1 : decode cX8_mend 1 = .ok (.iload_n 1, 1) := by decide +kernel
theorem dX8_mend_2 : decode cX8_mend 2 = .ok (.iload_n 2, 1) := by decide +kernel
theorem dX8_mend_3 : decode cX8_mend 3 = .ok (.invokevirtual 149, 3) := by decide +kernel
theorem dX8_mend_6 : decode cX8_mend 6 = .ok (.ifCond .eq 11, 3) := by decide +kernel
theorem dX8_mend_9 : decode cX8_mend 9 = .ok (.iload_n 2, 1) := by decide +kernel
theorem dX8_mend_10 : decode cX8_mend 10 = .ok (.iload_n 3, 1) := by decide +kernel
theorem dX8_mend_11 : decode cX8_mend 11 = .ok (.invokestatic 153, 3) := by decide +kernel
theorem dX8_mend_14 : decode cX8_mend 14 = .ok (.ifCond .ne 6, 3) := by decide +kernel
theorem dX8_mend_17 : decode cX8_mend 17 = .ok (.ldc 156, 2) := by decide +kernel
theorem dX8_mend_19 : decode cX8_mend 19 = .ok (.ireturn, 1) := by decide +kernel
theorem dX8_mend_20 : decode cX8_mend 20 = .ok (.aload_n 0, 1) := by decide +kernel
theorem dX8_mend_21 : decode cX8_mend 21 = .ok (.iload_n 1, 1) := by decide +kernel
theorem dX8_mend_22 : decode cX8_mend 22 = .ok (.iload_n 2, 1) := by decide +kernel
theorem dX8_mend_23 : decode cX8_mend 23 = .ok (.invokevirtual 157, 3) := by decide +kernel
theorem dX8_mend_26 : decode cX8_mend 26 = .ok (.istore 4, 2) := by decide +kernel
theorem dX8_mend_28 : decode cX8_mend 28 = .ok (.iload 4, 2) := by decide +kernel
theorem dX8_mend_30 : decode cX8_mend 30 = .ok (.iload_n 3, 1) := by decide +kernel
theorem dX8_mend_31 : decode cX8_mend 31 = .ok (.if_icmp .ne 6, 3) := by decide +kernel
theorem dX8_mend_34 : decode cX8_mend 34 = .ok (.iload 4, 2) := by decide +kernel
theorem dX8_mend_36 : decode cX8_mend 36 = .ok (.ireturn, 1) := by decide +kernel
theorem dX8_mend_37 : decode cX8_mend 37 = .ok (.aload_n 0, 1) := by decide +kernel
theorem dX8_mend_38 : decode cX8_mend 38 = .ok (.iload_n 1, 1) := by decide +kernel
theorem dX8_mend_39 : decode cX8_mend 39 = .ok (.iload_n 2, 1) := by decide +kernel
theorem dX8_mend_40 : decode cX8_mend 40 = .ok (.iload_n 3, 1) := by decide +kernel
theorem dX8_mend_41 : decode cX8_mend 41 = .ok (.invokevirtual 160, 3) := by decide +kernel
theorem dX8_mend_44 : decode cX8_mend 44 = .ok (.aload_n 0, 1) := by decide +kernel
theorem dX8_mend_45 : decode cX8_mend 45 = .ok (.getfield 164, 3) := by decide +kernel
theorem dX8_mend_48 : decode cX8_mend 48 = .ok (.bipush 40, 2) := by decide +kernel
theorem dX8_mend_50 : decode cX8_mend 50 = .ok (.if_icmp .ne 46, 3) := by decide +kernel
theorem dX8_mend_53 : decode cX8_mend 53 = .ok (.iconst 0, 1) := by decide +kernel
theorem dX8_mend_54 : decode cX8_mend 54 = .ok (.istore 5, 2) := by decide +kernel
theorem dX8_mend_56 : decode cX8_mend 56 = .ok (.iload 5, 2) := by decide +kernel
theorem dX8_mend_58 : decode cX8_mend 58 = .ok (.sipush 156, 3) := by decide +kernel
theorem dX8_mend_61 : decode cX8_mend 61 = .ok (.if_icmp .ge 25, 3) := by decide +kernel
theorem dX8_mend_64 : decode cX8_mend 64 = .ok (.aload_n 0, 1) := by decide +kernel
theorem dX8_mend_65 : decode cX8_mend 65 = .ok (.getfield 78, 3) := by decide +kernel
theorem dX8_mend_68 : decode cX8_mend 68 = .ok (.iload 5, 2) := by decide +kernel
theorem dX8_mend_70 : decode cX8_mend 70 = .ok (.aload_n 0, 1) := by decide +kernel
theorem dX8_mend_71 : decode cX8_mend 71 = .ok (.getfield 78, 3) := by decide +kernel
theorem dX8_mend_74 : decode cX8_mend 74 = .ok (.iload 5, 2) := by decide +kernel
theorem dX8_mend_76 : decode cX8_mend 76 = .ok (.iconst 4, 1) := by decide +kernel
theorem dX8_mend_77 : decode cX8_mend 77 = .ok (.iadd, 1) := by decide +kernel
theorem dX8_mend_78 : decode cX8_mend 78 = .ok (.iaload, 1) := by decide +kernel
theorem dX8_mend_79 : decode cX8_mend 79 = .ok (.iastore, 1) := by decide +kernel
theorem dX8_mend_80 : decode cX8_mend 80 = .ok (.iinc 5 1, 3) := by decide +kernel
theorem dX8_mend_83 : decode cX8_mend 83 = .ok (.goto (-27), 3) := by decide +kernel
theorem dX8_mend_86 : decode cX8_mend 86 = .ok (.aload_n 0, 1) := by decide +kernel
theorem dX8_mend_87 : decode cX8_mend 87 = .ok (.dup, 1) := by decide +kernel
theorem dX8_mend_88 : decode cX8_mend 88 = .ok (.getfield 164, 3) := by decide +kernel
theorem dX8_mend_91 : decode cX8_mend 91 = .ok (.iconst 1, 1) := by decide +kernel
theorem dX8_mend_92 : decode cX8_mend 92 = .ok (.isub, 1) := by decide +kernel
theorem dX8_mend_93 : decode cX8_mend 93 = .ok (.putfield 164, 3) := by decide +kernel
theorem dX8_mend_96 : decode cX8_mend 96 = .ok (.aload_n 0, 1) := by decide +kernel
theorem dX8_mend_97 : decode cX8_mend 97 = .ok (.getfield 78, 3) := by decide +kernel
theorem dX8_mend_100 : decode cX8_mend 100 = .ok (.iconst 4, 1) := by decide +kernel
theorem dX8_mend_101 : decode cX8_mend 101 = .ok (.aload_n 0, 1) := by decide +kernel
theorem dX8_mend_102 : decode cX8_mend 102 = .ok (.getfield 164, 3) := by decide +kernel
theorem dX8_mend_105 : decode cX8_mend 105 = .ok (.imul, 1) := by decide +kernel
theorem dX8_mend_106 : decode cX8_mend 106 = .ok (.iload_n 1, 1) := by decide +kernel
theorem dX8_mend_107 : decode cX8_mend 107 = .ok (.iastore, 1) := by decide +kernel
theorem dX8_mend_108 : decode cX8_mend 108 = .ok (.aload_n 0, 1) := by decide +kernel
theorem dX8_mend_109 : decode cX8_mend 109 = .ok (.getfield 78, 3) := by decide +kernel
theorem dX8_mend_112 : decode cX8_mend 112 = .ok (.iconst 4, 1) := by decide +kernel
theorem dX8_mend_113 : decode cX8_mend 113 = .ok (.aload_n 0, 1) := by decide +kernel
theorem dX8_mend_114 : decode cX8_mend 114 = .ok (.getfield 164, 3) := by decide +kernel
theorem dX8_mend_117 : decode cX8_mend 117 = .ok (.imul, 1) := by decide +kernel
theorem dX8_mend_118 : decode cX8_mend 118 = .ok (.iconst 1, 1) := by decide +kernel
theorem dX8_mend_119 : decode cX8_mend 119 = .ok (.iadd, 1) := by decide +kernel
theorem dX8_mend_120 : decode cX8_mend 120 = .ok (.iload_n 2, 1) := by decide +kernel
theorem dX8_mend_121 : decode cX8_mend 121 = .ok (.iastore, 1) := by decide +kernel
theorem dX8_mend_122 : decode cX8_mend 122 = .ok (.aload_n 0, 1) := by decide +kernel
theorem dX8_mend_123 : decode cX8_mend 123 = .ok (.getfield 78, 3) := by decide +kernel
theorem dX8_mend_126 : decode cX8_mend 126 = .ok (.iconst 4, 1) := by decide +kernel
theorem dX8_mend_127 : decode cX8_mend 127 = .ok (.aload_n 0, 1) := by decide +kernel
theorem dX8_mend_128 : decode cX8_mend 128 = .ok (.getfield 164, 3) := by decide +kernel
theorem dX8_mend_131 : decode cX8_mend 131 = .ok (.imul, 1) := by decide +kernel
theorem dX8_mend_132 : decode cX8_mend 132 = .ok (.iconst 2, 1) := by decide +kernel
theorem dX8_mend_133 : decode cX8_mend 133 = .ok (.iadd, 1) := by decide +kernel
theorem dX8_mend_134 : decode cX8_mend 134 = .ok (.iload 4, 2) := by decide +kernel
theorem dX8_mend_136 : decode cX8_mend 136 = .ok (.iastore, 1) := by decide +kernel
theorem dX8_mend_137 : decode cX8_mend 137 = .ok (.aload_n 0, 1) := by decide +kernel
theorem dX8_mend_138 : decode cX8_mend 138 = .ok (.getfield 78, 3) := by decide +kernel
theorem dX8_mend_141 : decode cX8_mend 141 = .ok (.iconst 4, 1) := by decide +kernel
theorem dX8_mend_142 : decode cX8_mend 142 = .ok (.aload_n 0, 1) := by decide +kernel
theorem dX8_mend_143 : decode cX8_mend 143 = .ok (.getfield 164, 3) := by decide +kernel
theorem dX8_mend_146 : decode cX8_mend 146 = .ok (.imul, 1) := by decide +kernel
theorem dX8_mend_147 : decode cX8_mend 147 = .ok (.iconst 3, 1) := by decide +kernel
theorem dX8_mend_148 : decode cX8_mend 148 = .ok (.iadd, 1) := by decide +kernel
theorem dX8_mend_149 : decode cX8_mend 149 = .ok (.iload_n 3, 1) := by decide +kernel
theorem dX8_mend_150 : decode cX8_mend 150 = .ok (.iastore, 1) := by decide +kernel
theorem dX8_mend_151 : decode cX8_mend 151 = .ok (.aload_n 0, 1) := by decide +kernel
theorem dX8_mend_152 : decode cX8_mend 152 = .ok (.dup, 1) := by decide +kernel
theorem dX8_mend_153 : decode cX8_mend 153 = .ok (.getfield 164, 3) := by decide +kernel
theorem dX8_mend_156 : decode cX8_mend 156 = .ok (.iconst 1, 1) := by decide +kernel
theorem dX8_mend_157 : decode cX8_mend 157 = .ok (.iadd, 1) := by decide +kernel
theorem dX8_mend_158 : decode cX8_mend 158 = .ok (.putfield 164, 3) := by decide +kernel
theorem dX8_mend_161 : decode cX8_mend 161 = .ok (.aload_n 0, 1) := by decide +kernel
theorem dX8_mend_162 : decode cX8_mend 162 = .ok (.aload_n 0, 1) := by decide +kernel
theorem dX8_mend_163 : decode cX8_mend 163 = .ok (.getfield 164, 3) := by decide +kernel
theorem dX8_mend_166 : decode cX8_mend 166 = .ok (.putfield 167, 3) := by decide +kernel
theorem dX8_mend_169 : decode cX8_mend 169 = .ok (.iload 4, 2) := by decide +kernel
theorem dX8_mend_171 : decode cX8_mend 171 = .ok (.ireturn, 1) := by decide +kernel
theorem dX8_of_0 : decode cX8_of 0 = .ok (.iload_n 2, 1) := by decide +kernel
