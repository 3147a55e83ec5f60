theorem dX0_init_0 : decode cX0_init 0 = .ok (.aload_n 0, 1) := by decide +kernel
theorem dX0_init_1 : decode cX0_init 1 = .ok (.invokespecial 1, 3) := by decide +kernel
theorem dX0_init_4 : decode cX0_init 4 = .ok (.aload_n 0, 1) := by decide +kernel
theorem dX0_init_5 : decode cX0_init 5 = .ok (.bipush 40, 2) := by decide +kernel
theorem dX0_init_7 : decode cX0_init 7 = .ok (.newarray .int, 2) := by decide +kernel
theorem dX0_init_9 : decode cX0_init 9 = .ok (.putfield 9, 3) := by decide +kernel
theorem dX0_init_12 : decode cX0_init 12 = .ok (.aload_n 0, 1) := by decide +kernel
theorem dX0_init_13 : decode cX0_init 13 = .ok (.bipush 40, 2) := by decide +kernel
theorem dX0_init_15 : decode cX0_init 15 = .ok (.newarray .int, 2) := by decide +kernel
theorem dX0_init_17 : decode cX0_init 17 = .ok (.putfield 13, 3) := by decide +kernel
theorem dX0_init_20 : decode cX0_init 20 = .ok (.aload_n 0, 1) := by decide +kernel
theorem dX0_init_21 : decode cX0_init 21 = .ok (.bipush 40, 2) := by decide +kernel
theorem dX0_init_23 : decode cX0_init 23 = .ok (.newarray .int, 2) := by decide +kernel
theorem dX0_init_25 : decode cX0_init 25 = .ok (.putfield 16, 3) := by decide +kernel
theorem dX0_init_28 : decode cX0_init 28 = .ok (.aload_n 0, 1) := by decide +kernel
theorem dX0_init_29 : decode cX0_init 29 = .ok (.bipush 40, 2) := by decide +kernel
theorem dX0_init_31 : decode cX0_init 31 = .ok (.newarray .int, 2) := by decide +kernel
theorem dX0_init_33 : decode cX0_init 33 = .ok (.putfield 19, 3) := by decide +kernel
theorem dX0_init_36 : decode cX0_init 36 = .ok (.aload_n 0, 1) := by decide +kernel
theorem dX0_init_37 : decode cX0_init 37 = .ok (.iconst 0, 1) := by decide +kernel
theorem dX0_init_38 : decode cX0_init 38 = .ok (.putfield 22, 3) := by decide +kernel
theorem dX0_init_41 : decode cX0_init 41 = .ok (.aload_n 0, 1) := by decide +kernel
theorem dX0_init_42 : decode cX0_init 42 = .ok (.iconst 0, 1) := by decide +kernel
theorem dX0_init_43 : decode cX0_init 43 = .ok (.putfield 26, 3) := by decide +kernel
theorem dX0_init_46 : decode cX0_init 46 = .ok (.return_, 1) := by decide +kernel
theorem dX0_note_0 : decode cX0_note 0 = .ok (.aload_n 0, 1) := by decide +kernel
theorem dX0_note_1 : decode cX0_note 1 = .ok (.getfield 26, 3) := by decide +kernel
theorem dX0_note_4 : decode cX0_note 4 = .ok (.bipush 40, 2) := by decide +kernel
theorem dX0_note_6 : decode cX0_note 6 = .ok (.if_icmp .ne 7, 3) := by decide +kernel
theorem dX0_note_9 : decode cX0_note 9 = .ok (.aload_n 0, 1) := by decide +kernel
theorem dX0_note_10 : decode cX0_note 10 = .ok (.invokevirtual 29, 3) := by decide +kernel
theorem dX0_note_13 : decode cX0_note 13 = .ok (.aload_n 0, 1) := by decide +kernel
theorem dX0_note_14 : decode cX0_note 14 = .ok (.getfield 9, 3) := by decide +kernel
theorem dX0_note_17 : decode cX0_note 17 = .ok (.aload_n 0, 1) := by decide +kernel
theorem dX0_note_18 : decode cX0_note 18 = .ok (.getfield 26, 3) := by decide +kernel
theorem dX0_note_21 : decode cX0_note 21 = .ok (.iload_n 1, 1) := by decide +kernel
theorem dX0_note_22 : decode cX0_note 22 = .ok (.iastore, 1) := by decide +kernel
theorem dX0_note_23 : decode cX0_note 23 = .ok (.aload_n 0, 1) := by decide +kernel
theorem dX0_note_24 : decode cX0_note 24 = .ok (.getfield 13, 3) := by decide +kernel
theorem dX0_note_27 : decode cX0_note 27 = .ok (.aload_n 0, 1) := by decide +kernel
theorem dX0_note_28 : decode cX0_note 28 = .ok (.getfield 26, 3) := by decide +kernel
theorem dX0_note_31 : decode cX0_note 31 = .ok (.iload_n 2, 1) := by decide +kernel
theorem dX0_note_32 : decode cX0_note 32 = .ok (.iastore, 1) := by decide +kernel
theorem dX0_note_33 : decode cX0_note 33 = .ok (.aload_n 0, 1) := by decide +kernel
theorem dX0_note_34 : decode cX0_note 34 = .ok (.getfield 16, 3) := by decide +kernel
theorem dX0_note_37 : decode cX0_note 37 = .ok (.aload_n 0, 1) := by decide +kernel
theorem dX0_note_38 : decode cX0_note 38 = .ok (.getfield 26, 3) := by decide +kernel
theorem dX0_note_41 : decode cX0_note 41 = .ok (.iload_n 3, 1) := by decide +kernel
theorem dX0_note_42 : decode cX0_note 42 = .ok (.iastore, 1) := by decide +kernel
theorem dX0_note_43 : decode cX0_note 43 = .ok (.aload_n 0, 1) := by decide +kernel
theorem dX0_note_44 : decode cX0_note 44 = .ok (.getfield 19, 3) := by decide +kernel
theorem dX0_note_47 : decode cX0_note 47 = .ok (.aload_n 0, 1) := by decide +kernel
theorem dX0_note_48 : decode cX0_note 48 = .ok (.getfield 26, 3) := by decide +kernel
theorem dX0_note_51 : decode cX0_note 51 = .ok (.iload 4, 2) := by decide +kernel
theorem dX0_note_53 : decode cX0_note 53 = .ok (.iastore, 1) := by decide +kernel
theorem dX0_note_54 : decode cX0_note 54 = .ok (.aload_n 0, 1) := by decide +kernel
theorem dX0_note_55 : decode cX0_note 55 = .ok (.dup, 1) := by decide +kernel
theorem dX0_note_56 : decode cX0_note 56 = .ok (.getfield 26, 3) := by decide +kernel
theorem dX0_note_59 : decode cX0_note 59 = .ok (.iconst 1, 1) := by decide +kernel
theorem dX0_note_60 : decode cX0_note 60 = .ok (.iadd, 1) := by decide +kernel
theorem dX0_note_61 : decode cX0_note 61 = .ok (.putfield 26, 3) := by decide +kernel
theorem dX0_note_64 : decode cX0_note 64 = .ok (.aload_n 0, 1) := by decide +kernel
theorem dX0_note_65 : decode cX0_note 65 = .ok (.aload_n 0, 1) := by decide +kernel
theorem dX0_note_66 : decode cX0_note 66 = .ok (.getfield 26, 3) := by decide +kernel
theorem dX0_note_69 : decode cX0_note 69 = .ok (.putfield 22, 3) := by decide +kernel
theorem dX0_note_72 : decode cX0_note 72 = .ok (.return_, 1) := by decide +kernel
theorem dX0_dropOldest_0 : decode cX0_dropOldest 0 = .ok (.aload_n 0, 1) := by decide +kernel
theorem dX0_dropOldest_1 : decode cX0_dropOldest 1 = .ok (.getfield 9, 3) := by decide +kernel
theorem dX0_dropOldest_4 : decode cX0_dropOldest 4 = .ok (.iconst 1, 1) := by decide +kernel
theorem dX0_dropOldest_5 : decode cX0_dropOldest 5 = .ok (.aload_n 0, 1) := by decide +kernel
theorem dX0_dropOldest_6 : decode cX0_dropOldest 6 = .ok (.getfield 9, 3) := by decide +kernel
theorem dX0_dropOldest_9 : decode cX0_dropOldest 9 = .ok (.iconst 0, 1) := by decide +kernel
theorem dX0_dropOldest_10 : decode cX0_dropOldest 10 = .ok (.bipush 39, 2) := by decide +kernel
theorem dX0_dropOldest_12 : decode cX0_dropOldest 12 = .ok (.invokestatic 32, 3) := by decide +kernel
theorem dX0_dropOldest_15 : decode cX0_dropOldest 15 = .ok (.aload_n 0, 1) := by decide +kernel
theorem dX0_dropOldest_16 : decode cX0_dropOldest 16 = .ok (.getfield 13, 3) := by decide +kernel
theorem dX0_dropOldest_19 : decode cX0_dropOldest 19 = .ok (.iconst 1, 1) := by decide +kernel
theorem dX0_dropOldest_20 : decode cX0_dropOldest 20 = .ok (.aload_n 0, 1) := by decide +kernel
theorem dX0_dropOldest_21 : decode cX0_dropOldest 21 = .ok (.getfield 13, 3) := by decide +kernel
theorem dX0_dropOldest_24 : decode cX0_dropOldest 24 = .ok (.iconst 0, 1) := by decide +kernel
theorem dX0_dropOldest_25 : decode cX0_dropOldest 25 = .ok (.bipush 39, 2) := by decide +kernel
theorem dX0_dropOldest_27 : decode cX0_dropOldest 27 = .ok (.invokestatic 32, 3) := by decide +kernel
theorem dX0_dropOldest_30 : decode cX0_dropOldest 30 = .ok (.aload_n 0, 1) := by decide +kernel
theorem dX0_dropOldest_31 : decode cX0_dropOldest 31 = .ok (.getfield 16, 3) := by decide +kernel
theorem dX0_dropOldest_34 : decode cX0_dropOldest 34 = .ok (.iconst 1, 1) := by decide +kernel
theorem dX0_dropOldest_35 : decode cX0_dropOldest 35 = .ok (.aload_n 0, 1) := by decide +kernel
theorem dX0_dropOldest_36 : decode cX0_dropOldest 36 = .ok (.getfield 16, 3) := by decide +kernel
theorem dX0_dropOldest_39 : decode cX0_dropOldest 39 = .ok (.iconst 0, 1) := by decide +kernel
theorem dX0_dropOldest_40 : decode cX0_dropOldest 40 = .ok (.bipush 39, 2) := by decide +kernel
theorem dX0_dropOldest_42 : decode cX0_dropOldest 42 = .ok (.invokestatic 32, 3) := by decide +kernel
theorem dX0_dropOldest_45 : decode cX0_dropOldest 45 = .ok (.aload_n 0, 1) := by decide +kernel
theorem dX0_dropOldest_46 : decode cX0_dropOldest 46 = .ok (.getfield 19, 3) := by decide +kernel
theorem dX0_dropOldest_49 : decode cX0_dropOldest 49 = .ok (.iconst 1, 1) := by decide +kernel
theorem dX0_dropOldest_50 : decode cX0_dropOldest 50 = .ok (.aload_n 0, 1) := by decide +kernel
theorem dX0_dropOldest_51 : decode cX0_dropOldest 51 = .ok (.getfield 19, 3) := by decide +kernel
theorem dX0_dropOldest_54 : decode cX0_dropOldest 54 = .ok (.iconst 0, 1) := by decide +kernel
theorem dX0_dropOldest_55 : decode cX0_dropOldest 55 = .ok (.bipush 39, 2) := by decide +kernel
theorem dX0_dropOldest_57 : decode cX0_dropOldest 57 = .ok (.invokestatic 32, 3) := by decide +kernel
theorem dX0_dropOldest_60 : decode cX0_dropOldest 60 = .ok (.aload_n 0, 1) := by decide +kernel
theorem dX0_dropOldest_61 : decode cX0_dropOldest 61 = .ok (.dup, 1) := by decide +kernel
theorem dX0_dropOldest_62 : decode cX0_dropOldest 62 = .ok (.getfield 26, 3) := by decide +kernel
theorem dX0_dropOldest_65 : decode cX0_dropOldest 65 = .ok (.iconst 1, 1) := by decide +kernel
theorem dX0_dropOldest_66 : decode cX0_dropOldest 66 = .ok (.isub, 1) := by decide +kernel
theorem dX0_dropOldest_67 : decode cX0_dropOldest 67 = .ok (.putfield 26, 3) := by decide +kernel
theorem dX0_dropOldest_70 : decode cX0_dropOldest 70 = .ok (.return_, 1) := by decide +kernel
theorem dX0_toUndo_0 : decode cX0_toUndo 0 = .ok (.aload_n 0, 1) := by decide +kernel
theorem dX0_toUndo_1 : decode cX0_toUndo 1 = .ok (.getfield 26, 3) := by decide +kernel
theorem dX0_toUndo_4 : decode cX0_toUndo 4 = .ok (.ifCond .le 7, 3) := by decide +kernel
theorem dX0_toUndo_7 : decode cX0_toUndo 7 = .ok (.iconst 1, 1) := by decide +kernel
theorem dX0_toUndo_8 : decode cX0_toUndo 8 = .ok (.goto 4, 3) := by decide +kernel
theorem dX0_toUndo_11 : decode cX0_toUndo 11 = .ok (.iconst 0, 1) := by decide +kernel
theorem dX0_toUndo_12 : decode cX0_toUndo 12 = .ok (.ireturn, 1) := by decide +kernel
theorem dX0_toRedo_0 : decode cX0_toRedo 0 = .ok (.aload_n 0, 1) := by decide +kernel
theorem dX0_toRedo_1 : decode cX0_toRedo 1 = .ok (.getfield 26, 3) := by decide +kernel
theorem dX0_toRedo_4 : decode cX0_toRedo 4 = .ok (.aload_n 0, 1) := by decide +kernel
theorem dX0_toRedo_5 : decode cX0_toRedo 5 = .ok (.getfield 22, 3) := by decide +kernel
theorem dX0_toRedo_8 : decode cX0_toRedo 8 = .ok (.if_icmp .ge 7, 3) := by decide +kernel
theorem dX0_toRedo_11 : decode cX0_toRedo 11 = .ok (.iconst 1, 1) := by decide +kernel
theorem dX0_toRedo_12 : decode cX0_toRedo 12 = .ok (.goto 4, 3) := by decide +kernel
theorem dX0_toRedo_15 : decode cX0_toRedo 15 = .ok (.iconst 0, 1) := by decide +kernel
theorem dX0_toRedo_16 : decode cX0_toRedo 16 = .ok (.ireturn, 1) := by decide +kernel
theorem dX0_stepBack_0 : decode cX0_stepBack 0 = .ok (.aload_n 0, 1) := by decide +kernel
theorem dX0_stepBack_1 : decode cX0_stepBack 1 = .ok (.dup, 1) := by decide +kernel
theorem dX0_stepBack_2 : decode cX0_stepBack 2 = .ok (.getfield 26, 3) := by decide +kernel
theorem dX0_stepBack_5 : decode cX0_stepBack 5 = .ok (.iconst 1, 1) := by decide +kernel
theorem dX0_stepBack_6 : decode cX0_stepBack 6 = .ok (.isub, 1) := by decide +kernel
theorem dX0_stepBack_7 : decode cX0_stepBack 7 = .ok (.putfield 26, 3) := by decide +kernel
theorem dX0_stepBack_10 : decode cX0_stepBack 10 = .ok (.aload_n 0, 1) := by decide +kernel
theorem dX0_stepBack_11 : decode cX0_stepBack 11 = .ok (.getfield 26, 3) := by decide +kernel
theorem dX0_stepBack_14 : decode cX0_stepBack 14 = .ok (.ireturn, 1) := by decide +kernel
theorem dX0_stepOn_0 : decode cX0_stepOn 0 = .ok (.aload_n 0, 1) := by decide +kernel
theorem dX0_stepOn_1 : decode cX0_stepOn 1 = .ok (.dup, 1) := by decide +kernel
theorem dX0_stepOn_2 : decode cX0_stepOn 2 = .ok (.getfield 26, 3) := by decide +kernel
theorem dX0_stepOn_5 : decode cX0_stepOn 5 = .ok (.iconst 1, 1) := by decide +kernel
theorem dX0_stepOn_6 : decode cX0_stepOn 6 = .ok (.iadd, 1) := by decide +kernel
theorem dX0_stepOn_7 : decode cX0_stepOn 7 = .ok (.putfield 26, 3) := by decide +kernel
theorem dX0_stepOn_10 : decode cX0_stepOn 10 = .ok (.aload_n 0, 1) := by decide +kernel
theorem dX0_stepOn_11 : decode cX0_stepOn 11 = .ok (.getfield 26, 3) := by decide +kernel
theorem dX0_stepOn_14 : decode cX0_stepOn 14 = .ok (.iconst 1, 1) := by decide +kernel
theorem dX0_stepOn_15 : decode cX0_stepOn 15 = .ok (.isub, 1) := by decide +kernel
theorem dX0_stepOn_16 : decode cX0_stepOn 16 = .ok (.ireturn, 1) := by decide +kernel
theorem dX1_init_0 : decode cX1_init 0 = .ok (.aload_n 0, 1) := by decide +kernel
theorem dX1_init_1 : decode cX1_init 1 = .ok (.invokespecial 3, 3) := by decide +kernel
theorem dX1_init_4 : decode cX1_init 4 = .ok (.aload_n 0, 1) := by decide +kernel
theorem dX1_init_5 : decode cX1_init 5 = .ok (.iconst 0, 1) := by decide +kernel
theorem dX1_init_6 : decode cX1_init 6 = .ok (.putfield 9, 3) := by decide +kernel
theorem dX1_init_9 : decode cX1_init 9 = .ok (.aload_n 0, 1) := by decide +kernel
theorem dX1_init_10 : decode cX1_init 10 = .ok (.bipush 50, 2) := by decide +kernel
theorem dX1_init_12 : decode cX1_init 12 = .ok (.newarray .int, 2) := by decide +kernel
theorem dX1_init_14 : decode cX1_init 14 = .ok (.putfield 15, 3) := by decide +kernel
theorem dX1_init_17 : decode cX1_init 17 = .ok (.aload_n 0, 1) := by decide +kernel
theorem dX1_init_18 : decode cX1_init 18 = .ok (.bipush 24, 2) := by decide +kernel
theorem dX1_init_20 : decode cX1_init 20 = .ok (.newarray .int, 2) := by decide +kernel
theorem dX1_init_22 : decode cX1_init 22 = .ok (.putfield 19, 3) := by decide +kernel
theorem dX1_init_25 : decode cX1_init 25 = .ok (.aload_n 0, 1) := by decide +kernel
theorem dX1_init_26 : decode cX1_init 26 = .ok (.iconst 0, 1) := by decide +kernel
theorem dX1_init_27 : decode cX1_init 27 = .ok (.putfield 22, 3) := by decide +kernel
theorem dX1_init_30 : decode cX1_init 30 = .ok (.aload_n 0, 1) := by decide +kernel
theorem dX1_init_31 : decode cX1_init 31 = .ok (.iconst 0, 1) := by decide +kernel
theorem dX1_init_32 : decode cX1_init 32 = .ok (.putfield 25, 3) := by decide +kernel
theorem dX1_init_35 : decode cX1_init 35 = .ok (.aload_n 0, 1) := by decide +kernel
theorem dX1_init_36 : decode cX1_init 36 = .ok (.iconst 0, 1) := by decide +kernel
theorem dX1_init_37 : decode cX1_init 37 = .ok (.putfield 28, 3) := by decide +kernel
theorem dX1_init_40 : decode cX1_init 40 = .ok (.return_, 1) := by decide +kernel
theorem dX1_isKind_0 : decode cX1_isKind 0 = .ok (.iload_n 1, 1) := by decide +kernel
theorem dX1_isKind_1 : decode cX1_isKind 1 = .ok (.ifCond .lt 13, 3) := by decide +kernel
theorem dX1_isKind_4 : decode cX1_isKind 4 = .ok (.iload_n 1, 1) := by decide +kernel
theorem dX1_isKind_5 : decode cX1_isKind 5 = .ok (.bipush 8, 2) := by decide +kernel
theorem dX1_isKind_7 : decode cX1_isKind 7 = .ok (.if_icmp .ge 7, 3) := by decide +kernel
theorem dX1_isKind_10 : decode cX1_isKind 10 = .ok (.iconst 1, 1) := by decide +kernel
theorem dX1_isKind_11 : decode cX1_isKind 11 = .ok (.goto 4, 3) := by decide +kernel
theorem dX1_isKind_14 : decode cX1_isKind 14 = .ok (.iconst 0, 1) := by decide +kernel
theorem dX1_isKind_15 : decode cX1_isKind 15 = .ok (.ireturn, 1) := by decide +kernel
theorem dX1_isBody_0 : decode cX1_isBody 0 = .ok (.iload_n 1, 1) := by decide +kernel
theorem dX1_isBody_1 : decode cX1_isBody 1 = .ok (.ifCond .lt 15, 3) := by decide +kernel
theorem dX1_isBody_4 : decode cX1_isBody 4 = .ok (.iload_n 1, 1) := by decide +kernel
theorem dX1_isBody_5 : decode cX1_isBody 5 = .ok (.aload_n 0, 1) := by decide +kernel
theorem dX1_isBody_6 : decode cX1_isBody 6 = .ok (.getfield 9, 3) := by decide +kernel
theorem dX1_isBody_9 : decode cX1_isBody 9 = .ok (.if_icmp .ge 7, 3) := by decide +kernel
theorem dX1_isBody_12 : decode cX1_isBody 12 = .ok (.iconst 1, 1) := by decide +kernel
theorem dX1_isBody_13 : decode cX1_isBody 13 = .ok (.goto 4, 3) := by decide +kernel
theorem dX1_isBody_16 : decode cX1_isBody 16 = .ok (.iconst 0, 1) := by decide +kernel
theorem dX1_isBody_17 : decode cX1_isBody 17 = .ok (.ireturn, 1) := by decide +kernel
theorem dX1_kindOf_0 : decode cX1_kindOf 0 = .ok (.aload_n 0, 1) := by decide +kernel
theorem dX1_kindOf_1 : decode cX1_kindOf 1 = .ok (.getfield 15, 3) := by decide +kernel
theorem dX1_kindOf_4 : decode cX1_kindOf 4 = .ok (.iload_n 1, 1) := by decide +kernel
theorem dX1_kindOf_5 : decode cX1_kindOf 5 = .ok (.iaload, 1) := by decide +kernel
theorem dX1_kindOf_6 : decode cX1_kindOf 6 = .ok (.ireturn, 1) := by decide +kernel
theorem dX1_add_0 : decode cX1_add 0 = .ok (.aload_n 0, 1) := by decide +kernel
theorem dX1_add_1 : decode cX1_add 1 = .ok (.getfield 9, 3) := by decide +kernel
theorem dX1_add_4 : decode cX1_add 4 = .ok (.bipush 50, 2) := by decide +kernel
theorem dX1_add_6 : decode cX1_add 6 = .ok (.if_icmp .ne 6, 3) := by decide +kernel
theorem dX1_add_9 : decode cX1_add 9 = .ok (.bipush (-3), 2) := by decide +kernel
theorem dX1_add_11 : decode cX1_add 11 = .ok (.ireturn, 1) := by decide +kernel
theorem dX1_add_12 : decode cX1_add 12 = .ok (.aload_n 0, 1) := by decide +kernel
theorem dX1_add_13 : decode cX1_add 13 = .ok (.getfield 15, 3) := by decide +kernel
theorem dX1_add_16 : decode cX1_add 16 = .ok (.aload_n 0, 1) := by decide +kernel
theorem dX1_add_17 : decode cX1_add 17 = .ok (.getfield 9, 3) := by decide +kernel
theorem dX1_add_20 : decode cX1_add 20 = .ok (.iload_n 1, 1) := by decide +kernel
theorem dX1_add_21 : decode cX1_add 21 = .ok (.iastore, 1) := by decide +kernel
theorem dX1_add_22 : decode cX1_add 22 = .ok (.aload_n 0, 1) := by decide +kernel
theorem dX1_add_23 : decode cX1_add 23 = .ok (.dup, 1) := by decide +kernel
theorem dX1_add_24 : decode cX1_add 24 = .ok (.getfield 9, 3) := by decide +kernel
theorem dX1_add_27 : decode cX1_add 27 = .ok (.dup_x1, 1) := by decide +kernel
theorem dX1_add_28 : decode cX1_add 28 = .ok (.iconst 1, 1) := by decide +kernel
theorem dX1_add_29 : decode cX1_add 29 = .ok (.iadd, 1) := by decide +kernel
theorem dX1_add_30 : decode cX1_add 30 = .ok (.putfield 9, 3) := by decide +kernel
theorem dX1_add_33 : decode cX1_add 33 = .ok (.ireturn, 1) := by decide +kernel
theorem dX1_isUnder_0 : decode cX1_isUnder 0 = .ok (.iload_n 1, 1) := by decide +kernel
theorem dX1_isUnder_1 : decode cX1_isUnder 1 = .ok (.istore_n 3, 1) := by decide +kernel
theorem dX1_isUnder_2 : decode cX1_isUnder 2 = .ok (.iconst 0, 1) := by decide +kernel
theorem dX1_isUnder_3 : decode cX1_isUnder 3 = .ok (.istore 4, 2) := by decide +kernel
theorem dX1_isUnder_5 : decode cX1_isUnder 5 = .ok (.iload 4, 2) := by decide +kernel
theorem dX1_isUnder_7 : decode cX1_isUnder 7 = .ok (.bipush 8, 2) := by decide +kernel
theorem dX1_isUnder_9 : decode cX1_isUnder 9 = .ok (.if_icmp .ge 30, 3) := by decide +kernel
theorem dX1_isUnder_12 : decode cX1_isUnder 12 = .ok (.aload_n 0, 1) := by decide +kernel
theorem dX1_isUnder_13 : decode cX1_isUnder 13 = .ok (.iload_n 3, 1) := by decide +kernel
theorem dX1_isUnder_14 : decode cX1_isUnder 14 = .ok (.invokevirtual 31, 3) := by decide +kernel
theorem dX1_isUnder_17 : decode cX1_isUnder 17 = .ok (.ifCond .eq 22, 3) := by decide +kernel
theorem dX1_isUnder_20 : decode cX1_isUnder 20 = .ok (.iload_n 3, 1) := by decide +kernel
theorem dX1_isUnder_21 : decode cX1_isUnder 21 = .ok (.iload_n 2, 1) := by decide +kernel
theorem dX1_isUnder_22 : decode cX1_isUnder 22 = .ok (.if_icmp .ne 5, 3) := by decide +kernel
theorem dX1_isUnder_25 : decode cX1_isUnder 25 = .ok (.iconst 1, 1) := by decide +kernel
theorem dX1_isUnder_26 : decode cX1_isUnder 26 = .ok (.ireturn, 1) := by decide +kernel
theorem dX1_isUnder_27 : decode cX1_isUnder 27 = .ok (.getstatic 35, 3) := by decide +kernel
theorem dX1_isUnder_30 : decode cX1_isUnder 30 = .ok (.iload_n 3, 1) := by decide +kernel
theorem dX1_isUnder_31 : decode cX1_isUnder 31 = .ok (.iaload, 1) := by decide +kernel
theorem dX1_isUnder_32 : decode cX1_isUnder 32 = .ok (.istore_n 3, 1) := by decide +kernel
theorem dX1_isUnder_33 : decode cX1_isUnder 33 = .ok (.iinc 4 1, 3) := by decide +kernel
theorem dX1_isUnder_36 : decode cX1_isUnder 36 = .ok (.goto (-31), 3) := by decide +kernel
theorem dX1_isUnder_39 : decode cX1_isUnder 39 = .ok (.iconst 0, 1) := by decide +kernel
theorem dX1_isUnder_40 : decode cX1_isUnder 40 = .ok (.ireturn, 1) := by decide +kernel
theorem dX1_ranAs_0 : decode cX1_ranAs 0 = .ok (.iload_n 1, 1) := by decide +kernel
theorem dX1_ranAs_1 : decode cX1_ranAs 1 = .ok (.ifCond .lt 26, 3) := by decide +kernel
theorem dX1_ranAs_4 : decode cX1_ranAs 4 = .ok (.iload_n 1, 1) := by decide +kernel
theorem dX1_ranAs_5 : decode cX1_ranAs 5 = .ok (.aload_n 0, 1) := by decide +kernel
theorem dX1_ranAs_6 : decode cX1_ranAs 6 = .ok (.getfield 22, 3) := by decide +kernel
theorem dX1_ranAs_9 : decode cX1_ranAs 9 = .ok (.if_icmp .ge 18, 3) := by decide +kernel
theorem dX1_ranAs_12 : decode cX1_ranAs 12 = .ok (.iload_n 1, 1) := by decide +kernel
theorem dX1_ranAs_13 : decode cX1_ranAs 13 = .ok (.bipush 24, 2) := by decide +kernel
theorem dX1_ranAs_15 : decode cX1_ranAs 15 = .ok (.if_icmp .ge 12, 3) := by decide +kernel
theorem dX1_ranAs_18 : decode cX1_ranAs 18 = .ok (.aload_n 0, 1) := by decide +kernel
theorem dX1_ranAs_19 : decode cX1_ranAs 19 = .ok (.getfield 19, 3) := by decide +kernel
theorem dX1_ranAs_22 : decode cX1_ranAs 22 = .ok (.iload_n 1, 1) := by decide +kernel
theorem dX1_ranAs_23 : decode cX1_ranAs 23 = .ok (.iaload, 1) := by decide +kernel
theorem dX1_ranAs_24 : decode cX1_ranAs 24 = .ok (.goto 4, 3) := by decide +kernel
theorem dX1_ranAs_27 : decode cX1_ranAs 27 = .ok (.iconst (-1), 1) := by decide +kernel
theorem dX1_ranAs_28 : decode cX1_ranAs 28 = .ok (.ireturn, 1) := by decide +kernel
theorem dX1_perform_0 : decode cX1_perform 0 = .ok (.aload_n 0, 1) := by decide +kernel
theorem dX1_perform_1 : decode cX1_perform 1 = .ok (.iconst 0, 1) := by decide +kernel
theorem dX1_perform_2 : decode cX1_perform 2 = .ok (.putfield 22, 3) := by decide +kernel
theorem dX1_perform_5 : decode cX1_perform 5 = .ok (.aload_n 0, 1) := by decide +kernel
theorem dX1_perform_6 : decode cX1_perform 6 = .ok (.iload_n 1, 1) := by decide +kernel
theorem dX1_perform_7 : decode cX1_perform 7 = .ok (.invokevirtual 38, 3) := by decide +kernel
theorem dX1_perform_10 : decode cX1_perform 10 = .ok (.ifCond .eq 12, 3) := by decide +kernel
theorem dX1_perform_13 : decode cX1_perform 13 = .ok (.iload_n 2, 1) := by decide +kernel
theorem dX1_perform_14 : decode cX1_perform 14 = .ok (.ifCond .lt 8, 3) := by decide +kernel
theorem dX1_perform_17 : decode cX1_perform 17 = .ok (.iload_n 2, 1) := by decide +kernel
theorem dX1_perform_18 : decode cX1_perform 18 = .ok (.iconst 4, 1) := by decide +kernel
theorem dX1_perform_19 : decode cX1_perform 19 = .ok (.if_icmp .lt 5, 3) := by decide +kernel
theorem dX1_perform_22 : decode cX1_perform 22 = .ok (.iconst 0, 1) := by decide +kernel
theorem dX1_perform_23 : decode cX1_perform 23 = .ok (.ireturn, 1) := by decide +kernel
theorem dX1_perform_24 : decode cX1_perform 24 = .ok (.aload_n 0, 1) := by decide +kernel
theorem dX1_perform_25 : decode cX1_perform 25 = .ok (.iload_n 1, 1) := by decide +kernel
theorem dX1_perform_26 : decode cX1_perform 26 = .ok (.putfield 25, 3) := by decide +kernel
theorem dX1_perform_29 : decode cX1_perform 29 = .ok (.aload_n 0, 1) := by decide +kernel
theorem dX1_perform_30 : decode cX1_perform 30 = .ok (.aload_n 0, 1) := by decide +kernel
theorem dX1_perform_31 : decode cX1_perform 31 = .ok (.getfield 15, 3) := by decide +kernel
theorem dX1_perform_34 : decode cX1_perform 34 = .ok (.iload_n 1, 1) := by decide +kernel
theorem dX1_perform_35 : decode cX1_perform 35 = .ok (.iaload, 1) := by decide +kernel
theorem dX1_perform_36 : decode cX1_perform 36 = .ok (.putfield 28, 3) := by decide +kernel
theorem dX1_perform_39 : decode cX1_perform 39 = .ok (.aload_n 0, 1) := by decide +kernel
theorem dX1_perform_40 : decode cX1_perform 40 = .ok (.aload_n 0, 1) := by decide +kernel
theorem dX1_perform_41 : decode cX1_perform 41 = .ok (.getfield 28, 3) := by decide +kernel
theorem dX1_perform_44 : decode cX1_perform 44 = .ok (.iload_n 2, 1) := by decide +kernel
theorem dX1_perform_45 : decode cX1_perform 45 = .ok (.iload_n 3, 1) := by decide +kernel
theorem dX1_perform_46 : decode cX1_perform 46 = .ok (.iconst 0, 1) := by decide +kernel
theorem dX1_perform_47 : decode cX1_perform 47 = .ok (.invokevirtual 41, 3) := by decide +kernel
theorem dX1_perform_50 : decode cX1_perform 50 = .ok (.ireturn, 1) := by decide +kernel
theorem dX1_from_0 : decode cX1_from 0 = .ok (.iload_n 1, 1) := by decide +kernel
theorem dX1_from_1 : decode cX1_from 1 = .ok (.istore 5, 2) := by decide +kernel
theorem dX1_from_3 : decode cX1_from 3 = .ok (.iconst 0, 1) := by decide +kernel
theorem dX1_from_4 : decode cX1_from 4 = .ok (.istore 6, 2) := by decide +kernel
theorem dX1_from_6 : decode cX1_from 6 = .ok (.iload 6, 2) := by decide +kernel
theorem dX1_from_8 : decode cX1_from 8 = .ok (.bipush 8, 2) := by decide +kernel
theorem dX1_from_10 : decode cX1_from 10 = .ok (.if_icmp .ge 42, 3) := by decide +kernel
theorem dX1_from_13 : decode cX1_from 13 = .ok (.aload_n 0, 1) := by decide +kernel
theorem dX1_from_14 : decode cX1_from 14 = .ok (.iload 5, 2) := by decide +kernel
theorem dX1_from_16 : decode cX1_from 16 = .ok (.invokevirtual 31, 3) := by decide +kernel
theorem dX1_from_19 : decode cX1_from 19 = .ok (.ifCond .eq 33, 3) := by decide +kernel
theorem dX1_from_22 : decode cX1_from 22 = .ok (.getstatic 45, 3) := by decide +kernel
theorem dX1_from_25 : decode cX1_from 25 = .ok (.iload 5, 2) := by decide +kernel
theorem dX1_from_27 : decode cX1_from 27 = .ok (.iconst 4, 1) := by decide +kernel
theorem dX1_from_28 : decode cX1_from 28 = .ok (.imul, 1) := by decide +kernel
theorem dX1_from_29 : decode cX1_from 29 = .ok (.iload_n 2, 1) := by decide +kernel
theorem dX1_from_30 : decode cX1_from 30 = .ok (.iadd, 1) := by decide +kernel
theorem dX1_from_31 : decode cX1_from 31 = .ok (.iaload, 1) := by decide +kernel
theorem dX1_from_32 : decode cX1_from 32 = .ok (.ifCond .eq 6, 3) := by decide +kernel
theorem dX1_from_35 : decode cX1_from 35 = .ok (.goto 17, 3) := by decide +kernel
theorem dX1_from_38 : decode cX1_from 38 = .ok (.getstatic 35, 3) := by decide +kernel
theorem dX1_from_41 : decode cX1_from 41 = .ok (.iload 5, 2) := by decide +kernel
theorem dX1_from_43 : decode cX1_from 43 = .ok (.iaload, 1) := by decide +kernel
theorem dX1_from_44 : decode cX1_from 44 = .ok (.istore 5, 2) := by decide +kernel
theorem dX1_from_46 : decode cX1_from 46 = .ok (.iinc 6 1, 3) := by decide +kernel
theorem dX1_from_49 : decode cX1_from 49 = .ok (.goto (-43), 3) := by decide +kernel
theorem dX1_from_52 : decode cX1_from 52 = .ok (.aload_n 0, 1) := by decide +kernel
theorem dX1_from_53 : decode cX1_from 53 = .ok (.iload 5, 2) := by decide +kernel
theorem dX1_from_55 : decode cX1_from 55 = .ok (.invokevirtual 31, 3) := by decide +kernel
theorem dX1_from_58 : decode cX1_from 58 = .ok (.ifCond .eq 10, 3) := by decide +kernel
theorem dX1_from_61 : decode cX1_from 61 = .ok (.iload 4, 2) := by decide +kernel
theorem dX1_from_63 : decode cX1_from 63 = .ok (.bipush 40, 2) := by decide +kernel
theorem dX1_from_65 : decode cX1_from 65 = .ok (.if_icmp .le 5, 3) := by decide +kernel
theorem dX1_from_68 : decode cX1_from 68 = .ok (.iconst 0, 1) := by decide +kernel
theorem dX1_from_69 : decode cX1_from 69 = .ok (.ireturn, 1) := by decide +kernel
theorem dX1_from_70 : decode cX1_from 70 = .ok (.getstatic 45, 3) := by decide +kernel
theorem dX1_from_73 : decode cX1_from 73 = .ok (.iload 5, 2) := by decide +kernel
theorem dX1_from_75 : decode cX1_from 75 = .ok (.iconst 4, 1) := by decide +kernel
theorem dX1_from_76 : decode cX1_from 76 = .ok (.imul, 1) := by decide +kernel
theorem dX1_from_77 : decode cX1_from 77 = .ok (.iload_n 2, 1) := by decide +kernel
theorem dX1_from_78 : decode cX1_from 78 = .ok (.iadd, 1) := by decide +kernel
theorem dX1_from_79 : decode cX1_from 79 = .ok (.iaload, 1) := by decide +kernel
theorem dX1_from_80 : decode cX1_from 80 = .ok (.istore 6, 2) := by decide +kernel
theorem dX1_from_82 : decode cX1_from 82 = .ok (.aload_n 0, 1) := by decide +kernel
theorem dX1_from_83 : decode cX1_from 83 = .ok (.getfield 22, 3) := by decide +kernel
theorem dX1_from_86 : decode cX1_from 86 = .ok (.bipush 24, 2) := by decide +kernel
theorem dX1_from_88 : decode cX1_from 88 = .ok (.if_icmp .ge 14, 3) := by decide +kernel
theorem dX1_from_91 : decode cX1_from 91 = .ok (.aload_n 0, 1) := by decide +kernel
theorem dX1_from_92 : decode cX1_from 92 = .ok (.getfield 19, 3) := by decide +kernel
theorem dX1_from_95 : decode cX1_from 95 = .ok (.aload_n 0, 1) := by decide +kernel
theorem dX1_from_96 : decode cX1_from 96 = .ok (.getfield 22, 3) := by decide +kernel
theorem dX1_from_99 : decode cX1_from 99 = .ok (.iload 6, 2) := by decide +kernel
theorem dX1_from_101 : decode cX1_from 101 = .ok (.iastore, 1) := by decide +kernel
theorem dX1_from_102 : decode cX1_from 102 = .ok (.aload_n 0, 1) := by decide +kernel
theorem dX1_from_103 : decode cX1_from 103 = .ok (.dup, 1) := by decide +kernel
theorem dX1_from_104 : decode cX1_from 104 = .ok (.getfield 22, 3) := by decide +kernel
theorem dX1_from_107 : decode cX1_from 107 = .ok (.iconst 1, 1) := by decide +kernel
theorem dX1_from_108 : decode cX1_from 108 = .ok (.iadd, 1) := by decide +kernel
theorem dX1_from_109 : decode cX1_from 109 = .ok (.putfield 22, 3) := by decide +kernel
theorem dX1_from_112 : decode cX1_from 112 = .ok (.aload_n 0, 1) := by decide +kernel
theorem dX1_from_113 : decode cX1_from 113 = .ok (.iload 6, 2) := by decide +kernel
theorem dX1_from_115 : decode cX1_from 115 = .ok (.getstatic 35, 3) := by decide +kernel
theorem dX1_from_118 : decode cX1_from 118 = .ok (.iload 5, 2) := by decide +kernel
theorem dX1_from_120 : decode cX1_from 120 = .ok (.iaload, 1) := by decide +kernel
theorem dX1_from_121 : decode cX1_from 121 = .ok (.iload_n 3, 1) := by decide +kernel
theorem dX1_from_122 : decode cX1_from 122 = .ok (.iload 4, 2) := by decide +kernel
theorem dX1_from_124 : decode cX1_from 124 = .ok (.iconst 1, 1) := by decide +kernel
theorem dX1_from_125 : decode cX1_from 125 = .ok (.iadd, 1) := by decide +kernel
theorem dX1_from_126 : decode cX1_from 126 = .ok (.invokevirtual 48, 3) := by decide +kernel
theorem dX1_from_129 : decode cX1_from 129 = .ok (.ireturn, 1) := by decide +kernel
theorem dX1_perBody_0 : decode cX1_perBody 0 = .ok (.iload_n 1, 1) := by decide +kernel
theorem dX1_perBody_1 : decode cX1_perBody 1 = .ok (.lookupswitch 279 #[(1, 107), (2, 114), (10, 140), (11, 155), (20, 162), (30, 174), (40, 185), (41, 197), (50, 209), (60, 232), (70, 244), (80, 256)], 107) := by decide +kernel
theorem dX1_perBody_108 : decode cX1_perBody 108 = .ok (.iload_n 3, 1) := by decide +kernel
theorem dX1_perBody_109 : decode cX1_perBody 109 = .ok (.aload_n 0, 1) := by decide +kernel
theorem dX1_perBody_110 : decode cX1_perBody 110 = .ok (.getfield 25, 3) := by decide +kernel
theorem dX1_perBody_113 : decode cX1_perBody 113 = .ok (.iadd, 1) := by decide +kernel
theorem dX1_perBody_114 : decode cX1_perBody 114 = .ok (.ireturn, 1) := by decide +kernel
theorem dX1_perBody_115 : decode cX1_perBody 115 = .ok (.aload_n 0, 1) := by decide +kernel
theorem dX1_perBody_116 : decode cX1_perBody 116 = .ok (.aload_n 0, 1) := by decide +kernel
theorem dX1_perBody_117 : decode cX1_perBody 117 = .ok (.getfield 28, 3) := by decide +kernel
theorem dX1_perBody_120 : decode cX1_perBody 120 = .ok (.iconst 1, 1) := by decide +kernel
theorem dX1_perBody_121 : decode cX1_perBody 121 = .ok (.iload_n 3, 1) := by decide +kernel
theorem dX1_perBody_122 : decode cX1_perBody 122 = .ok (.iload 4, 2) := by decide +kernel
theorem dX1_perBody_124 : decode cX1_perBody 124 = .ok (.invokevirtual 41, 3) := by decide +kernel
theorem dX1_perBody_127 : decode cX1_perBody 127 = .ok (.aload_n 0, 1) := by decide +kernel
theorem dX1_perBody_128 : decode cX1_perBody 128 = .ok (.aload_n 0, 1) := by decide +kernel
theorem dX1_perBody_129 : decode cX1_perBody 129 = .ok (.getfield 28, 3) := by decide +kernel
theorem dX1_perBody_132 : decode cX1_perBody 132 = .ok (.iconst 2, 1) := by decide +kernel
theorem dX1_perBody_133 : decode cX1_perBody 133 = .ok (.iconst 1, 1) := by decide +kernel
theorem dX1_perBody_134 : decode cX1_perBody 134 = .ok (.iload 4, 2) := by decide +kernel
theorem dX1_perBody_136 : decode cX1_perBody 136 = .ok (.invokevirtual 41, 3) := by decide +kernel
theorem dX1_perBody_139 : decode cX1_perBody 139 = .ok (.isub, 1) := by decide +kernel
theorem dX1_perBody_140 : decode cX1_perBody 140 = .ok (.ireturn, 1) := by decide +kernel
theorem dX1_perBody_141 : decode cX1_perBody 141 = .ok (.aload_n 0, 1) := by decide +kernel
theorem dX1_perBody_142 : decode cX1_perBody 142 = .ok (.aload_n 0, 1) := by decide +kernel
theorem dX1_perBody_143 : decode cX1_perBody 143 = .ok (.getfield 28, 3) := by decide +kernel
theorem dX1_perBody_146 : decode cX1_perBody 146 = .ok (.iconst 0, 1) := by decide +kernel
theorem dX1_perBody_147 : decode cX1_perBody 147 = .ok (.iload_n 3, 1) := by decide +kernel
theorem dX1_perBody_148 : decode cX1_perBody 148 = .ok (.iload 4, 2) := by decide +kernel
theorem dX1_perBody_150 : decode cX1_perBody 150 = .ok (.invokevirtual 41, 3) := by decide +kernel
theorem dX1_perBody_153 : decode cX1_perBody 153 = .ok (.iconst 2, 1) := by decide +kernel
theorem dX1_perBody_154 : decode cX1_perBody 154 = .ok (.imul, 1) := by decide +kernel
theorem dX1_perBody_155 : decode cX1_perBody 155 = .ok (.ireturn, 1) := by decide +kernel
theorem dX1_perBody_156 : decode cX1_perBody 156 = .ok (.iload_n 3, 1) := by decide +kernel
theorem dX1_perBody_157 : decode cX1_perBody 157 = .ok (.aload_n 0, 1) := by decide +kernel
theorem dX1_perBody_158 : decode cX1_perBody 158 = .ok (.getfield 25, 3) := by decide +kernel
theorem dX1_perBody_161 : decode cX1_perBody 161 = .ok (.ixor, 1) := by decide +kernel
theorem dX1_perBody_162 : decode cX1_perBody 162 = .ok (.ireturn, 1) := by decide +kernel
theorem dX1_perBody_163 : decode cX1_perBody 163 = .ok (.aload_n 0, 1) := by decide +kernel
theorem dX1_perBody_164 : decode cX1_perBody 164 = .ok (.iload_n 2, 1) := by decide +kernel
theorem dX1_perBody_165 : decode cX1_perBody 165 = .ok (.iconst 0, 1) := by decide +kernel
theorem dX1_perBody_166 : decode cX1_perBody 166 = .ok (.iload_n 3, 1) := by decide +kernel
theorem dX1_perBody_167 : decode cX1_perBody 167 = .ok (.iload 4, 2) := by decide +kernel
theorem dX1_perBody_169 : decode cX1_perBody 169 = .ok (.invokevirtual 41, 3) := by decide +kernel
theorem dX1_perBody_172 : decode cX1_perBody 172 = .ok (.iconst 3, 1) := by decide +kernel
theorem dX1_perBody_173 : decode cX1_perBody 173 = .ok (.iadd, 1) := by decide +kernel
theorem dX1_perBody_174 : decode cX1_perBody 174 = .ok (.ireturn, 1) := by decide +kernel
theorem dX1_perBody_175 : decode cX1_perBody 175 = .ok (.aload_n 0, 1) := by decide +kernel
theorem dX1_perBody_176 : decode cX1_perBody 176 = .ok (.iload_n 2, 1) := by decide +kernel
theorem dX1_perBody_177 : decode cX1_perBody 177 = .ok (.iconst 1, 1) := by decide +kernel
theorem dX1_perBody_178 : decode cX1_perBody 178 = .ok (.iload_n 3, 1) := by decide +kernel
theorem dX1_perBody_179 : decode cX1_perBody 179 = .ok (.iload 4, 2) := by decide +kernel
theorem dX1_perBody_181 : decode cX1_perBody 181 = .ok (.invokevirtual 41, 3) := by decide +kernel
theorem dX1_perBody_184 : decode cX1_perBody 184 = .ok (.ineg, 1) := by decide +kernel
theorem dX1_perBody_185 : decode cX1_perBody 185 = .ok (.ireturn, 1) := by decide +kernel
theorem dX1_perBody_186 : decode cX1_perBody 186 = .ok (.aload_n 0, 1) := by decide +kernel
theorem dX1_perBody_187 : decode cX1_perBody 187 = .ok (.iload_n 2, 1) := by decide +kernel
theorem dX1_perBody_188 : decode cX1_perBody 188 = .ok (.iconst 2, 1) := by decide +kernel
theorem dX1_perBody_189 : decode cX1_perBody 189 = .ok (.iload_n 3, 1) := by decide +kernel
theorem dX1_perBody_190 : decode cX1_perBody 190 = .ok (.iload 4, 2) := by decide +kernel
theorem dX1_perBody_192 : decode cX1_perBody 192 = .ok (.invokevirtual 41, 3) := by decide +kernel
theorem dX1_perBody_195 : decode cX1_perBody 195 = .ok (.iconst 3, 1) := by decide +kernel
theorem dX1_perBody_196 : decode cX1_perBody 196 = .ok (.imul, 1) := by decide +kernel
theorem dX1_perBody_197 : decode cX1_perBody 197 = .ok (.ireturn, 1) := by decide +kernel
theorem dX1_perBody_198 : decode cX1_perBody 198 = .ok (.aload_n 0, 1) := by decide +kernel
theorem dX1_perBody_199 : decode cX1_perBody 199 = .ok (.iload_n 2, 1) := by decide +kernel
theorem dX1_perBody_200 : decode cX1_perBody 200 = .ok (.iconst 1, 1) := by decide +kernel
theorem dX1_perBody_201 : decode cX1_perBody 201 = .ok (.iload_n 3, 1) := by decide +kernel
theorem dX1_perBody_202 : decode cX1_perBody 202 = .ok (.iconst 1, 1) := by decide +kernel
theorem dX1_perBody_203 : decode cX1_perBody 203 = .ok (.iadd, 1) := by decide +kernel
theorem dX1_perBody_204 : decode cX1_perBody 204 = .ok (.iload 4, 2) := by decide +kernel
theorem dX1_perBody_206 : decode cX1_perBody 206 = .ok (.invokevirtual 41, 3) := by decide +kernel
theorem dX1_perBody_209 : decode cX1_perBody 209 = .ok (.ireturn, 1) := by decide +kernel
theorem dX1_perBody_210 : decode cX1_perBody 210 = .ok (.aload_n 0, 1) := by decide +kernel
theorem dX1_perBody_211 : decode cX1_perBody 211 = .ok (.iload_n 2, 1) := by decide +kernel
theorem dX1_perBody_212 : decode cX1_perBody 212 = .ok (.iconst 2, 1) := by decide +kernel
theorem dX1_perBody_213 : decode cX1_perBody 213 = .ok (.iload_n 3, 1) := by decide +kernel
theorem dX1_perBody_214 : decode cX1_perBody 214 = .ok (.iload 4, 2) := by decide +kernel
theorem dX1_perBody_216 : decode cX1_perBody 216 = .ok (.invokevirtual 41, 3) := by decide +kernel
theorem dX1_perBody_219 : decode cX1_perBody 219 = .ok (.aload_n 0, 1) := by decide +kernel
theorem dX1_perBody_220 : decode cX1_perBody 220 = .ok (.aload_n 0, 1) := by decide +kernel
theorem dX1_perBody_221 : decode cX1_perBody 221 = .ok (.getfield 28, 3) := by decide +kernel
theorem dX1_perBody_224 : decode cX1_perBody 224 = .ok (.iconst 0, 1) := by decide +kernel
theorem dX1_perBody_225 : decode cX1_perBody 225 = .ok (.iconst 2, 1) := by decide +kernel
theorem dX1_perBody_226 : decode cX1_perBody 226 = .ok (.iload 4, 2) := by decide +kernel
theorem dX1_perBody_228 : decode cX1_perBody 228 = .ok (.invokevirtual 41, 3) := by decide +kernel
theorem dX1_perBody_231 : decode cX1_perBody 231 = .ok (.isub, 1) := by decide +kernel
theorem dX1_perBody_232 : decode cX1_perBody 232 = .ok (.ireturn, 1) := by decide +kernel
theorem dX1_perBody_233 : decode cX1_perBody 233 = .ok (.aload_n 0, 1) := by decide +kernel
theorem dX1_perBody_234 : decode cX1_perBody 234 = .ok (.iload_n 2, 1) := by decide +kernel
theorem dX1_perBody_235 : decode cX1_perBody 235 = .ok (.iconst 3, 1) := by decide +kernel
theorem dX1_perBody_236 : decode cX1_perBody 236 = .ok (.iload_n 3, 1) := by decide +kernel
theorem dX1_perBody_237 : decode cX1_perBody 237 = .ok (.iload 4, 2) := by decide +kernel
theorem dX1_perBody_239 : decode cX1_perBody 239 = .ok (.invokevirtual 41, 3) := by decide +kernel
theorem dX1_perBody_242 : decode cX1_perBody 242 = .ok (.iconst 5, 1) := by decide +kernel
theorem dX1_perBody_243 : decode cX1_perBody 243 = .ok (.ixor, 1) := by decide +kernel
theorem dX1_perBody_244 : decode cX1_perBody 244 = .ok (.ireturn, 1) := by decide +kernel
theorem dX1_perBody_245 : decode cX1_perBody 245 = .ok (.aload_n 0, 1) := by decide +kernel
theorem dX1_perBody_246 : decode cX1_perBody 246 = .ok (.iload_n 2, 1) := by decide +kernel
theorem dX1_perBody_247 : decode cX1_perBody 247 = .ok (.iconst 0, 1) := by decide +kernel
theorem dX1_perBody_248 : decode cX1_perBody 248 = .ok (.iload_n 3, 1) := by decide +kernel
theorem dX1_perBody_249 : decode cX1_perBody 249 = .ok (.iload 4, 2) := by decide +kernel
theorem dX1_perBody_251 : decode cX1_perBody 251 = .ok (.invokevirtual 41, 3) := by decide +kernel
theorem dX1_perBody_254 : decode cX1_perBody 254 = .ok (.iconst 2, 1) := by decide +kernel
theorem dX1_perBody_255 : decode cX1_perBody 255 = .ok (.imul, 1) := by decide +kernel
theorem dX1_perBody_256 : decode cX1_perBody 256 = .ok (.ireturn, 1) := by decide +kernel
theorem dX1_perBody_257 : decode cX1_perBody 257 = .ok (.aload_n 0, 1) := by decide +kernel
theorem dX1_perBody_258 : decode cX1_perBody 258 = .ok (.iload_n 2, 1) := by decide +kernel
theorem dX1_perBody_259 : decode cX1_perBody 259 = .ok (.iconst 1, 1) := by decide +kernel
theorem dX1_perBody_260 : decode cX1_perBody 260 = .ok (.iload_n 3, 1) := by decide +kernel
theorem dX1_perBody_261 : decode cX1_perBody 261 = .ok (.iload 4, 2) := by decide +kernel
theorem dX1_perBody_263 : decode cX1_perBody 263 = .ok (.invokevirtual 41, 3) := by decide +kernel
theorem dX1_perBody_266 : decode cX1_perBody 266 = .ok (.aload_n 0, 1) := by decide +kernel
theorem dX1_perBody_267 : decode cX1_perBody 267 = .ok (.aload_n 0, 1) := by decide +kernel
theorem dX1_perBody_268 : decode cX1_perBody 268 = .ok (.getfield 28, 3) := by decide +kernel
theorem dX1_perBody_271 : decode cX1_perBody 271 = .ok (.iconst 2, 1) := by decide +kernel
theorem dX1_perBody_272 : decode cX1_perBody 272 = .ok (.iconst 2, 1) := by decide +kernel
theorem dX1_perBody_273 : decode cX1_perBody 273 = .ok (.iload 4, 2) := by decide +kernel
theorem dX1_perBody_275 : decode cX1_perBody 275 = .ok (.invokevirtual 41, 3) := by decide +kernel
theorem dX1_perBody_278 : decode cX1_perBody 278 = .ok (.iadd, 1) := by decide +kernel
theorem dX1_perBody_279 : decode cX1_perBody 279 = .ok (.ireturn, 1) := by decide +kernel
theorem dX1_perBody_280 : decode cX1_perBody 280 = .ok (.aload_n 0, 1) := by decide +kernel
theorem dX1_perBody_281 : decode cX1_perBody 281 = .ok (.iload_n 2, 1) := by decide +kernel
theorem dX1_perBody_282 : decode cX1_perBody 282 = .ok (.iconst 3, 1) := by decide +kernel
theorem dX1_perBody_283 : decode cX1_perBody 283 = .ok (.iload_n 3, 1) := by decide +kernel
theorem dX1_perBody_284 : decode cX1_perBody 284 = .ok (.iload 4, 2) := by decide +kernel
theorem dX1_perBody_286 : decode cX1_perBody 286 = .ok (.invokevirtual 41, 3) := by decide +kernel
theorem dX1_perBody_289 : decode cX1_perBody 289 = .ok (.iconst 1, 1) := by decide +kernel
theorem dX1_perBody_290 : decode cX1_perBody 290 = .ok (.isub, 1) := by decide +kernel
theorem dX1_perBody_291 : decode cX1_perBody 291 = .ok (.ireturn, 1) := by decide +kernel
theorem dX2_init_0 : decode cX2_init 0 = .ok (.aload_n 0, 1) := by decide +kernel
theorem dX2_init_1 : decode cX2_init 1 = .ok (.invokespecial 3, 3) := by decide +kernel
theorem dX2_init_4 : decode cX2_init 4 = .ok (.aload_n 0, 1) := by decide +kernel
theorem dX2_init_5 : decode cX2_init 5 = .ok (.bipush 12, 2) := by decide +kernel
theorem dX2_init_7 : decode cX2_init 7 = .ok (.newarray .int, 2) := by decide +kernel
theorem dX2_init_9 : decode cX2_init 9 = .ok (.putfield 9, 3) := by decide +kernel
theorem dX2_init_12 : decode cX2_init 12 = .ok (.aload_n 0, 1) := by decide +kernel
theorem dX2_init_13 : decode cX2_init 13 = .ok (.bipush 12, 2) := by decide +kernel
theorem dX2_init_15 : decode cX2_init 15 = .ok (.newarray .int, 2) := by decide +kernel
theorem dX2_init_17 : decode cX2_init 17 = .ok (.putfield 15, 3) := by decide +kernel
theorem dX2_init_20 : decode cX2_init 20 = .ok (.aload_n 0, 1) := by decide +kernel
theorem dX2_init_21 : decode cX2_init 21 = .ok (.bipush 12, 2) := by decide +kernel
theorem dX2_init_23 : decode cX2_init 23 = .ok (.newarray .int, 2) := by decide +kernel
theorem dX2_init_25 : decode cX2_init 25 = .ok (.putfield 18, 3) := by decide +kernel
theorem dX2_init_28 : decode cX2_init 28 = .ok (.aload_n 0, 1) := by decide +kernel
theorem dX2_init_29 : decode cX2_init 29 = .ok (.bipush 12, 2) := by decide +kernel
theorem dX2_init_31 : decode cX2_init 31 = .ok (.newarray .int, 2) := by decide +kernel
theorem dX2_init_33 : decode cX2_init 33 = .ok (.putfield 21, 3) := by decide +kernel
theorem dX2_init_36 : decode cX2_init 36 = .ok (.aload_n 0, 1) := by decide +kernel
theorem dX2_init_37 : decode cX2_init 37 = .ok (.iconst 0, 1) := by decide +kernel
theorem dX2_init_38 : decode cX2_init 38 = .ok (.putfield 24, 3) := by decide +kernel
theorem dX2_init_41 : decode cX2_init 41 = .ok (.aload_n 0, 1) := by decide +kernel
theorem dX2_init_42 : decode cX2_init 42 = .ok (.iconst 0, 1) := by decide +kernel
theorem dX2_init_43 : decode cX2_init 43 = .ok (.putfield 28, 3) := by decide +kernel
theorem dX2_init_46 : decode cX2_init 46 = .ok (.aload_n 0, 1) := by decide +kernel
theorem dX2_init_47 : decode cX2_init 47 = .ok (.iconst 0, 1) := by decide +kernel
theorem dX2_init_48 : decode cX2_init 48 = .ok (.putfield 31, 3) := by decide +kernel
theorem dX2_init_51 : decode cX2_init 51 = .ok (.return_, 1) := by decide +kernel
theorem dX2_clear_0 : decode cX2_clear 0 = .ok (.aload_n 0, 1) := by decide +kernel
theorem dX2_clear_1 : decode cX2_clear 1 = .ok (.iconst 0, 1) := by decide +kernel
theorem dX2_clear_2 : decode cX2_clear 2 = .ok (.putfield 24, 3) := by decide +kernel
theorem dX2_clear_5 : decode cX2_clear 5 = .ok (.aload_n 0, 1) := by decide +kernel
theorem dX2_clear_6 : decode cX2_clear 6 = .ok (.iconst 0, 1) := by decide +kernel
theorem dX2_clear_7 : decode cX2_clear 7 = .ok (.putfield 28, 3) := by decide +kernel
theorem dX2_clear_10 : decode cX2_clear 10 = .ok (.aload_n 0, 1) := by decide +kernel
theorem dX2_clear_11 : decode cX2_clear 11 = .ok (.iconst 0, 1) := by decide +kernel
theorem dX2_clear_12 : decode cX2_clear 12 = .ok (.putfield 31, 3) := by decide +kernel
theorem dX2_clear_15 : decode cX2_clear 15 = .ok (.return_, 1) := by decide +kernel
theorem dX2_offer_0 : decode cX2_offer 0 = .ok (.iload 4, 2) := by decide +kernel
theorem dX2_offer_2 : decode cX2_offer 2 = .ok (.ifCond .eq 12, 3) := by decide +kernel
theorem dX2_offer_5 : decode cX2_offer 5 = .ok (.aload_n 0, 1) := by decide +kernel
theorem dX2_offer_6 : decode cX2_offer 6 = .ok (.getfield 24, 3) := by decide +kernel
theorem dX2_offer_9 : decode cX2_offer 9 = .ok (.bipush 12, 2) := by decide +kernel
theorem dX2_offer_11 : decode cX2_offer 11 = .ok (.if_icmp .ne 4, 3) := by decide +kernel
theorem dX2_offer_14 : decode cX2_offer 14 = .ok (.return_, 1) := by decide +kernel
theorem dX2_offer_15 : decode cX2_offer 15 = .ok (.aload_n 0, 1) := by decide +kernel
theorem dX2_offer_16 : decode cX2_offer 16 = .ok (.getfield 9, 3) := by decide +kernel
theorem dX2_offer_19 : decode cX2_offer 19 = .ok (.aload_n 0, 1) := by decide +kernel
theorem dX2_offer_20 : decode cX2_offer 20 = .ok (.getfield 24, 3) := by decide +kernel
theorem dX2_offer_23 : decode cX2_offer 23 = .ok (.iload_n 1, 1) := by decide +kernel
theorem dX2_offer_24 : decode cX2_offer 24 = .ok (.iastore, 1) := by decide +kernel
theorem dX2_offer_25 : decode cX2_offer 25 = .ok (.aload_n 0, 1) := by decide +kernel
theorem dX2_offer_26 : decode cX2_offer 26 = .ok (.getfield 15, 3) := by decide +kernel
theorem dX2_offer_29 : decode cX2_offer 29 = .ok (.aload_n 0, 1) := by decide +kernel
theorem dX2_offer_30 : decode cX2_offer 30 = .ok (.getfield 24, 3) := by decide +kernel
theorem dX2_offer_33 : decode cX2_offer 33 = .ok (.iload_n 2, 1) := by decide +kernel
theorem dX2_offer_34 : decode cX2_offer 34 = .ok (.iastore, 1) := by decide +kernel
theorem dX2_offer_35 : decode cX2_offer 35 = .ok (.aload_n 0, 1) := by decide +kernel
theorem dX2_offer_36 : decode cX2_offer 36 = .ok (.getfield 18, 3) := by decide +kernel
theorem dX2_offer_39 : decode cX2_offer 39 = .ok (.aload_n 0, 1) := by decide +kernel
theorem dX2_offer_40 : decode cX2_offer 40 = .ok (.getfield 24, 3) := by decide +kernel
theorem dX2_offer_43 : decode cX2_offer 43 = .ok (.iload_n 3, 1) := by decide +kernel
theorem dX2_offer_44 : decode cX2_offer 44 = .ok (.iastore, 1) := by decide +kernel
theorem dX2_offer_45 : decode cX2_offer 45 = .ok (.aload_n 0, 1) := by decide +kernel
theorem dX2_offer_46 : decode cX2_offer 46 = .ok (.getfield 21, 3) := by decide +kernel
theorem dX2_offer_49 : decode cX2_offer 49 = .ok (.aload_n 0, 1) := by decide +kernel
theorem dX2_offer_50 : decode cX2_offer 50 = .ok (.getfield 24, 3) := by decide +kernel
theorem dX2_offer_53 : decode cX2_offer 53 = .ok (.iload 4, 2) := by decide +kernel
theorem dX2_offer_55 : decode cX2_offer 55 = .ok (.iastore, 1) := by decide +kernel
theorem dX2_offer_56 : decode cX2_offer 56 = .ok (.aload_n 0, 1) := by decide +kernel
theorem dX2_offer_57 : decode cX2_offer 57 = .ok (.dup, 1) := by decide +kernel
theorem dX2_offer_58 : decode cX2_offer 58 = .ok (.getfield 24, 3) := by decide +kernel
theorem dX2_offer_61 : decode cX2_offer 61 = .ok (.iconst 1, 1) := by decide +kernel
theorem dX2_offer_62 : decode cX2_offer 62 = .ok (.iadd, 1) := by decide +kernel
theorem dX2_offer_63 : decode cX2_offer 63 = .ok (.putfield 24, 3) := by decide +kernel
theorem dX2_offer_66 : decode cX2_offer 66 = .ok (.return_, 1) := by decide +kernel
theorem dX2_search_0 : decode cX2_search 0 = .ok (.aload_n 0, 1) := by decide +kernel
theorem dX2_search_1 : decode cX2_search 1 = .ok (.iconst 0, 1) := by decide +kernel
theorem dX2_search_2 : decode cX2_search 2 = .ok (.iconst 0, 1) := by decide +kernel
theorem dX2_search_3 : decode cX2_search 3 = .ok (.iconst 0, 1) := by decide +kernel
theorem dX2_search_4 : decode cX2_search 4 = .ok (.iconst 0, 1) := by decide +kernel
theorem dX2_search_5 : decode cX2_search 5 = .ok (.iconst 0, 1) := by decide +kernel
theorem dX2_search_6 : decode cX2_search 6 = .ok (.invokevirtual 34, 3) := by decide +kernel
theorem dX2_search_9 : decode cX2_search 9 = .ok (.return_, 1) := by decide +kernel
theorem dX2_choose_0 : decode cX2_choose 0 = .ok (.iload_n 1, 1) := by decide +kernel
theorem dX2_choose_1 : decode cX2_choose 1 = .ok (.aload_n 0, 1) := by decide +kernel
theorem dX2_choose_2 : decode cX2_choose 2 = .ok (.getfield 24, 3) := by decide +kernel
theorem dX2_choose_5 : decode cX2_choose 5 = .ok (.if_icmp .lt 23, 3) := by decide +kernel
theorem dX2_choose_8 : decode cX2_choose 8 = .ok (.aload_n 0, 1) := by decide +kernel
theorem dX2_choose_9 : decode cX2_choose 9 = .ok (.iload_n 2, 1) := by decide +kernel
theorem dX2_choose_10 : decode cX2_choose 10 = .ok (.iload_n 3, 1) := by decide +kernel
theorem dX2_choose_11 : decode cX2_choose 11 = .ok (.invokevirtual 38, 3) := by decide +kernel
theorem dX2_choose_14 : decode cX2_choose 14 = .ok (.ifCond .eq 13, 3) := by decide +kernel
theorem dX2_choose_17 : decode cX2_choose 17 = .ok (.aload_n 0, 1) := by decide +kernel
theorem dX2_choose_18 : decode cX2_choose 18 = .ok (.iload_n 2, 1) := by decide +kernel
theorem dX2_choose_19 : decode cX2_choose 19 = .ok (.putfield 28, 3) := by decide +kernel
theorem dX2_choose_22 : decode cX2_choose 22 = .ok (.aload_n 0, 1) := by decide +kernel
theorem dX2_choose_23 : decode cX2_choose 23 = .ok (.iload_n 3, 1) := by decide +kernel
theorem dX2_choose_24 : decode cX2_choose 24 = .ok (.putfield 31, 3) := by decide +kernel
theorem dX2_choose_27 : decode cX2_choose 27 = .ok (.return_, 1) := by decide +kernel
theorem dX2_choose_28 : decode cX2_choose 28 = .ok (.iload_n 2, 1) := by decide +kernel
theorem dX2_choose_29 : decode cX2_choose 29 = .ok (.aload_n 0, 1) := by decide +kernel
theorem dX2_choose_30 : decode cX2_choose 30 = .ok (.iload_n 1, 1) := by decide +kernel
theorem dX2_choose_31 : decode cX2_choose 31 = .ok (.invokevirtual 42, 3) := by decide +kernel
theorem dX2_choose_34 : decode cX2_choose 34 = .ok (.iadd, 1) := by decide +kernel
theorem dX2_choose_35 : decode cX2_choose 35 = .ok (.aload_n 0, 1) := by decide +kernel
theorem dX2_choose_36 : decode cX2_choose 36 = .ok (.getfield 28, 3) := by decide +kernel
theorem dX2_choose_39 : decode cX2_choose 39 = .ok (.if_icmp .ge 4, 3) := by decide +kernel
theorem dX2_choose_42 : decode cX2_choose 42 = .ok (.return_, 1) := by decide +kernel
theorem dX2_choose_43 : decode cX2_choose 43 = .ok (.iconst 1, 1) := by decide +kernel
theorem dX2_choose_44 : decode cX2_choose 44 = .ok (.aload_n 0, 1) := by decide +kernel
theorem dX2_choose_45 : decode cX2_choose 45 = .ok (.getfield 15, 3) := by decide +kernel
theorem dX2_choose_48 : decode cX2_choose 48 = .ok (.iload_n 1, 1) := by decide +kernel
theorem dX2_choose_49 : decode cX2_choose 49 = .ok (.iaload, 1) := by decide +kernel
theorem dX2_choose_50 : decode cX2_choose 50 = .ok (.ishl, 1) := by decide +kernel
theorem dX2_choose_51 : decode cX2_choose 51 = .ok (.istore 6, 2) := by decide +kernel
theorem dX2_choose_53 : decode cX2_choose 53 = .ok (.iconst 1, 1) := by decide +kernel
theorem dX2_choose_54 : decode cX2_choose 54 = .ok (.aload_n 0, 1) := by decide +kernel
theorem dX2_choose_55 : decode cX2_choose 55 = .ok (.getfield 18, 3) := by decide +kernel
theorem dX2_choose_58 : decode cX2_choose 58 = .ok (.iload_n 1, 1) := by decide +kernel
theorem dX2_choose_59 : decode cX2_choose 59 = .ok (.iaload, 1) := by decide +kernel
theorem dX2_choose_60 : decode cX2_choose 60 = .ok (.ishl, 1) := by decide +kernel
theorem dX2_choose_61 : decode cX2_choose 61 = .ok (.istore 7, 2) := by decide +kernel
theorem dX2_choose_63 : decode cX2_choose 63 = .ok (.iload 4, 2) := by decide +kernel
theorem dX2_choose_65 : decode cX2_choose 65 = .ok (.iload 6, 2) := by decide +kernel
theorem dX2_choose_67 : decode cX2_choose 67 = .ok (.iand, 1) := by decide +kernel
theorem dX2_choose_68 : decode cX2_choose 68 = .ok (.ifCond .ne 46, 3) := by decide +kernel
theorem dX2_choose_71 : decode cX2_choose 71 = .ok (.iload 5, 2) := by decide +kernel
theorem dX2_choose_73 : decode cX2_choose 73 = .ok (.iload 7, 2) := by decide +kernel
theorem dX2_choose_75 : decode cX2_choose 75 = .ok (.iand, 1) := by decide +kernel
theorem dX2_choose_76 : decode cX2_choose 76 = .ok (.ifCond .ne 38, 3) := by decide +kernel
theorem dX2_choose_79 : decode cX2_choose 79 = .ok (.aload_n 0, 1) := by decide +kernel
theorem dX2_choose_80 : decode cX2_choose 80 = .ok (.iload_n 1, 1) := by decide +kernel
theorem dX2_choose_81 : decode cX2_choose 81 = .ok (.iconst 1, 1) := by decide +kernel
theorem dX2_choose_82 : decode cX2_choose 82 = .ok (.iadd, 1) := by decide +kernel
theorem dX2_choose_83 : decode cX2_choose 83 = .ok (.iload_n 2, 1) := by decide +kernel
theorem dX2_choose_84 : decode cX2_choose 84 = .ok (.aload_n 0, 1) := by decide +kernel
theorem dX2_choose_85 : decode cX2_choose 85 = .ok (.getfield 21, 3) := by decide +kernel
theorem dX2_choose_88 : decode cX2_choose 88 = .ok (.iload_n 1, 1) := by decide +kernel
theorem dX2_choose_89 : decode cX2_choose 89 = .ok (.iaload, 1) := by decide +kernel
theorem dX2_choose_90 : decode cX2_choose 90 = .ok (.iadd, 1) := by decide +kernel
theorem dX2_choose_91 : decode cX2_choose 91 = .ok (.iload_n 3, 1) := by decide +kernel
theorem dX2_choose_92 : decode cX2_choose 92 = .ok (.iconst 1, 1) := by decide +kernel
theorem dX2_choose_93 : decode cX2_choose 93 = .ok (.aload_n 0, 1) := by decide +kernel
theorem dX2_choose_94 : decode cX2_choose 94 = .ok (.getfield 9, 3) := by decide +kernel
theorem dX2_choose_97 : decode cX2_choose 97 = .ok (.iload_n 1, 1) := by decide +kernel
theorem dX2_choose_98 : decode cX2_choose 98 = .ok (.iaload, 1) := by decide +kernel
theorem dX2_choose_99 : decode cX2_choose 99 = .ok (.ishl, 1) := by decide +kernel
theorem dX2_choose_100 : decode cX2_choose 100 = .ok (.ior, 1) := by decide +kernel
theorem dX2_choose_101 : decode cX2_choose 101 = .ok (.iload 4, 2) := by decide +kernel
theorem dX2_choose_103 : decode cX2_choose 103 = .ok (.iload 6, 2) := by decide +kernel
theorem dX2_choose_105 : decode cX2_choose 105 = .ok (.ior, 1) := by decide +kernel
theorem dX2_choose_106 : decode cX2_choose 106 = .ok (.iload 5, 2) := by decide +kernel
theorem dX2_choose_108 : decode cX2_choose 108 = .ok (.iload 7, 2) := by decide +kernel
theorem dX2_choose_110 : decode cX2_choose 110 = .ok (.ior, 1) := by decide +kernel
theorem dX2_choose_111 : decode cX2_choose 111 = .ok (.invokevirtual 34, 3) := by decide +kernel
theorem dX2_choose_114 : decode cX2_choose 114 = .ok (.aload_n 0, 1) := by decide +kernel
theorem dX2_choose_115 : decode cX2_choose 115 = .ok (.iload_n 1, 1) := by decide +kernel
theorem dX2_choose_116 : decode cX2_choose 116 = .ok (.iconst 1, 1) := by decide +kernel
theorem dX2_choose_117 : decode cX2_choose 117 = .ok (.iadd, 1) := by decide +kernel
theorem dX2_choose_118 : decode cX2_choose 118 = .ok (.iload_n 2, 1) := by decide +kernel
theorem dX2_choose_119 : decode cX2_choose 119 = .ok (.iload_n 3, 1) := by decide +kernel
theorem dX2_choose_120 : decode cX2_choose 120 = .ok (.iload 4, 2) := by decide +kernel
theorem dX2_choose_122 : decode cX2_choose 122 = .ok (.iload 5, 2) := by decide +kernel
theorem dX2_choose_124 : decode cX2_choose 124 = .ok (.invokevirtual 34, 3) := by decide +kernel
theorem dX2_choose_127 : decode cX2_choose 127 = .ok (.return_, 1) := by decide +kernel
theorem dX2_restFrom_0 : decode cX2_restFrom 0 = .ok (.iconst 0, 1) := by decide +kernel
theorem dX2_restFrom_1 : decode cX2_restFrom 1 = .ok (.istore_n 2, 1) := by decide +kernel
theorem dX2_restFrom_2 : decode cX2_restFrom 2 = .ok (.iload_n 1, 1) := by decide +kernel
theorem dX2_restFrom_3 : decode cX2_restFrom 3 = .ok (.istore_n 3, 1) := by decide +kernel
theorem dX2_restFrom_4 : decode cX2_restFrom 4 = .ok (.iload_n 3, 1) := by decide +kernel
theorem dX2_restFrom_5 : decode cX2_restFrom 5 = .ok (.aload_n 0, 1) := by decide +kernel
theorem dX2_restFrom_6 : decode cX2_restFrom 6 = .ok (.getfield 24, 3) := by decide +kernel
theorem dX2_restFrom_9 : decode cX2_restFrom 9 = .ok (.if_icmp .ge 18, 3) := by decide +kernel
theorem dX2_restFrom_12 : decode cX2_restFrom 12 = .ok (.iload_n 2, 1) := by decide +kernel
theorem dX2_restFrom_13 : decode cX2_restFrom 13 = .ok (.aload_n 0, 1) := by decide +kernel
theorem dX2_restFrom_14 : decode cX2_restFrom 14 = .ok (.getfield 21, 3) := by decide +kernel
theorem dX2_restFrom_17 : decode cX2_restFrom 17 = .ok (.iload_n 3, 1) := by decide +kernel
theorem dX2_restFrom_18 : decode cX2_restFrom 18 = .ok (.iaload, 1) := by decide +kernel
theorem dX2_restFrom_19 : decode cX2_restFrom 19 = .ok (.iadd, 1) := by decide +kernel
theorem dX2_restFrom_20 : decode cX2_restFrom 20 = .ok (.istore_n 2, 1) := by decide +kernel
theorem dX2_restFrom_21 : decode cX2_restFrom 21 = .ok (.iinc 3 1, 3) := by decide +kernel
theorem dX2_restFrom_24 : decode cX2_restFrom 24 = .ok (.goto (-20), 3) := by decide +kernel
theorem dX2_restFrom_27 : decode cX2_restFrom 27 = .ok (.iload_n 2, 1) := by decide +kernel
theorem dX2_restFrom_28 : decode cX2_restFrom 28 = .ok (.ireturn, 1) := by decide +kernel
theorem dX2_isBetter_0 : decode cX2_isBetter 0 = .ok (.iload_n 1, 1) := by decide +kernel
theorem dX2_isBetter_1 : decode cX2_isBetter 1 = .ok (.aload_n 0, 1) := by decide +kernel
theorem dX2_isBetter_2 : decode cX2_isBetter 2 = .ok (.getfield 28, 3) := by decide +kernel
theorem dX2_isBetter_5 : decode cX2_isBetter 5 = .ok (.if_icmp .eq 17, 3) := by decide +kernel
theorem dX2_isBetter_8 : decode cX2_isBetter 8 = .ok (.iload_n 1, 1) := by decide +kernel
theorem dX2_isBetter_9 : decode cX2_isBetter 9 = .ok (.aload_n 0, 1) := by decide +kernel
theorem dX2_isBetter_10 : decode cX2_isBetter 10 = .ok (.getfield 28, 3) := by decide +kernel
theorem dX2_isBetter_13 : decode cX2_isBetter 13 = .ok (.if_icmp .le 7, 3) := by decide +kernel
theorem dX2_isBetter_16 : decode cX2_isBetter 16 = .ok (.iconst 1, 1) := by decide +kernel
theorem dX2_isBetter_17 : decode cX2_isBetter 17 = .ok (.goto 4, 3) := by decide +kernel
theorem dX2_isBetter_20 : decode cX2_isBetter 20 = .ok (.iconst 0, 1) := by decide +kernel
theorem dX2_isBetter_21 : decode cX2_isBetter 21 = .ok (.ireturn, 1) := by decide +kernel
theorem dX2_isBetter_22 : decode cX2_isBetter 22 = .ok (.iload_n 2, 1) := by decide +kernel
theorem dX2_isBetter_23 : decode cX2_isBetter 23 = .ok (.invokestatic 46, 3) := by decide +kernel
theorem dX2_isBetter_26 : decode cX2_isBetter 26 = .ok (.aload_n 0, 1) := by decide +kernel
theorem dX2_isBetter_27 : decode cX2_isBetter 27 = .ok (.getfield 31, 3) := by decide +kernel
theorem dX2_isBetter_30 : decode cX2_isBetter 30 = .ok (.invokestatic 46, 3) := by decide +kernel
theorem dX2_isBetter_33 : decode cX2_isBetter 33 = .ok (.isub, 1) := by decide +kernel
theorem dX2_isBetter_34 : decode cX2_isBetter 34 = .ok (.istore_n 3, 1) := by decide +kernel
theorem dX2_isBetter_35 : decode cX2_isBetter 35 = .ok (.iload_n 3, 1) := by decide +kernel
theorem dX2_isBetter_36 : decode cX2_isBetter 36 = .ok (.ifCond .eq 15, 3) := by decide +kernel
theorem dX2_isBetter_39 : decode cX2_isBetter 39 = .ok (.iload_n 3, 1) := by decide +kernel
theorem dX2_isBetter_40 : decode cX2_isBetter 40 = .ok (.ifCond .ge 7, 3) := by decide +kernel
theorem dX2_isBetter_43 : decode cX2_isBetter 43 = .ok (.iconst 1, 1) := by decide +kernel
theorem dX2_isBetter_44 : decode cX2_isBetter 44 = .ok (.goto 20, 3) := by decide +kernel
theorem dX2_isBetter_47 : decode cX2_isBetter 47 = .ok (.iconst 0, 1) := by decide +kernel
theorem dX2_isBetter_48 : decode cX2_isBetter 48 = .ok (.goto 16, 3) := by decide +kernel
theorem dX2_isBetter_51 : decode cX2_isBetter 51 = .ok (.iload_n 2, 1) := by decide +kernel
theorem dX2_isBetter_52 : decode cX2_isBetter 52 = .ok (.aload_n 0, 1) := by decide +kernel
theorem dX2_isBetter_53 : decode cX2_isBetter 53 = .ok (.getfield 31, 3) := by decide +kernel
theorem dX2_isBetter_56 : decode cX2_isBetter 56 = .ok (.if_icmp .ge 7, 3) := by decide +kernel
theorem dX2_isBetter_59 : decode cX2_isBetter 59 = .ok (.iconst 1, 1) := by decide +kernel
theorem dX2_isBetter_60 : decode cX2_isBetter 60 = .ok (.goto 4, 3) := by decide +kernel
theorem dX2_isBetter_63 : decode cX2_isBetter 63 = .ok (.iconst 0, 1) := by decide +kernel
theorem dX2_isBetter_64 : decode cX2_isBetter 64 = .ok (.ireturn, 1) := by decide +kernel
theorem dX3_init_0 : decode cX3_init 0 = .ok (.aload_n 0, 1) := by decide +kernel
theorem dX3_init_1 : decode cX3_init 1 = .ok (.invokespecial 3, 3) := by decide +kernel
theorem dX3_init_4 : decode cX3_init 4 = .ok (.aload_n 0, 1) := by decide +kernel
theorem dX3_init_5 : decode cX3_init 5 = .ok (.iconst 0, 1) := by decide +kernel
theorem dX3_init_6 : decode cX3_init 6 = .ok (.putfield 9, 3) := by decide +kernel
theorem dX3_init_9 : decode cX3_init 9 = .ok (.aload_n 0, 1) := by decide +kernel
theorem dX3_init_10 : decode cX3_init 10 = .ok (.bipush 10, 2) := by decide +kernel
theorem dX3_init_12 : decode cX3_init 12 = .ok (.newarray .int, 2) := by decide +kernel
theorem dX3_init_14 : decode cX3_init 14 = .ok (.putfield 15, 3) := by decide +kernel
theorem dX3_init_17 : decode cX3_init 17 = .ok (.aload_n 0, 1) := by decide +kernel
theorem dX3_init_18 : decode cX3_init 18 = .ok (.bipush 10, 2) := by decide +kernel
theorem dX3_init_20 : decode cX3_init 20 = .ok (.newarray .int, 2) := by decide +kernel
theorem dX3_init_22 : decode cX3_init 22 = .ok (.putfield 19, 3) := by decide +kernel
theorem dX3_init_25 : decode cX3_init 25 = .ok (.aload_n 0, 1) := by decide +kernel
theorem dX3_init_26 : decode cX3_init 26 = .ok (.iconst 0, 1) := by decide +kernel
theorem dX3_init_27 : decode cX3_init 27 = .ok (.putfield 22, 3) := by decide +kernel
theorem dX3_init_30 : decode cX3_init 30 = .ok (.aload_n 0, 1) := by decide +kernel
theorem dX3_init_31 : decode cX3_init 31 = .ok (.bipush 12, 2) := by decide +kernel
theorem dX3_init_33 : decode cX3_init 33 = .ok (.newarray .int, 2) := by decide +kernel
theorem dX3_init_35 : decode cX3_init 35 = .ok (.putfield 25, 3) := by decide +kernel
theorem dX3_init_38 : decode cX3_init 38 = .ok (.aload_n 0, 1) := by decide +kernel
theorem dX3_init_39 : decode cX3_init 39 = .ok (.bipush 12, 2) := by decide +kernel
theorem dX3_init_41 : decode cX3_init 41 = .ok (.newarray .int, 2) := by decide +kernel
theorem dX3_init_43 : decode cX3_init 43 = .ok (.putfield 28, 3) := by decide +kernel
theorem dX3_init_46 : decode cX3_init 46 = .ok (.aload_n 0, 1) := by decide +kernel
theorem dX3_init_47 : decode cX3_init 47 = .ok (.bipush 12, 2) := by decide +kernel
theorem dX3_init_49 : decode cX3_init 49 = .ok (.newarray .int, 2) := by decide +kernel
theorem dX3_init_51 : decode cX3_init 51 = .ok (.putfield 31, 3) := by decide +kernel
theorem dX3_init_54 : decode cX3_init 54 = .ok (.return_, 1) := by decide +kernel
theorem dX3_isOne_0 : decode cX3_isOne 0 = .ok (.iload_n 1, 1) := by decide +kernel
theorem dX3_isOne_1 : decode cX3_isOne 1 = .ok (.ifCond .lt 15, 3) := by decide +kernel
theorem dX3_isOne_4 : decode cX3_isOne 4 = .ok (.iload_n 1, 1) := by decide +kernel
theorem dX3_isOne_5 : decode cX3_isOne 5 = .ok (.aload_n 0, 1) := by decide +kernel
theorem dX3_isOne_6 : decode cX3_isOne 6 = .ok (.getfield 9, 3) := by decide +kernel
theorem dX3_isOne_9 : decode cX3_isOne 9 = .ok (.if_icmp .ge 7, 3) := by decide +kernel
theorem dX3_isOne_12 : decode cX3_isOne 12 = .ok (.iconst 1, 1) := by decide +kernel
theorem dX3_isOne_13 : decode cX3_isOne 13 = .ok (.goto 4, 3) := by decide +kernel
theorem dX3_isOne_16 : decode cX3_isOne 16 = .ok (.iconst 0, 1) := by decide +kernel
theorem dX3_isOne_17 : decode cX3_isOne 17 = .ok (.ireturn, 1) := by decide +kernel
theorem dX3_isWrong_0 : decode cX3_isWrong 0 = .ok (.iload_n 1, 1) := by decide +kernel
theorem dX3_isWrong_1 : decode cX3_isWrong 1 = .ok (.ifCond .lt 15, 3) := by decide +kernel
theorem dX3_isWrong_4 : decode cX3_isWrong 4 = .ok (.iload_n 1, 1) := by decide +kernel
theorem dX3_isWrong_5 : decode cX3_isWrong 5 = .ok (.aload_n 0, 1) := by decide +kernel
theorem dX3_isWrong_6 : decode cX3_isWrong 6 = .ok (.getfield 22, 3) := by decide +kernel
theorem dX3_isWrong_9 : decode cX3_isWrong 9 = .ok (.if_icmp .ge 7, 3) := by decide +kernel
theorem dX3_isWrong_12 : decode cX3_isWrong 12 = .ok (.iconst 1, 1) := by decide +kernel
theorem dX3_isWrong_13 : decode cX3_isWrong 13 = .ok (.goto 4, 3) := by decide +kernel
theorem dX3_isWrong_16 : decode cX3_isWrong 16 = .ok (.iconst 0, 1) := by decide +kernel
theorem dX3_isWrong_17 : decode cX3_isWrong 17 = .ok (.ireturn, 1) := by decide +kernel
theorem dX3_isSo_0 : decode cX3_isSo 0 = .ok (.aload_n 0, 1) := by decide +kernel
theorem dX3_isSo_1 : decode cX3_isSo 1 = .ok (.iload_n 1, 1) := by decide +kernel
theorem dX3_isSo_2 : decode cX3_isSo 2 = .ok (.invokevirtual 34, 3) := by decide +kernel
theorem dX3_isSo_5 : decode cX3_isSo 5 = .ok (.ifCond .eq 31, 3) := by decide +kernel
theorem dX3_isSo_8 : decode cX3_isSo 8 = .ok (.aload_n 0, 1) := by decide +kernel
theorem dX3_isSo_9 : decode cX3_isSo 9 = .ok (.iload_n 2, 1) := by decide +kernel
theorem dX3_isSo_10 : decode cX3_isSo 10 = .ok (.invokevirtual 34, 3) := by decide +kernel
theorem dX3_isSo_13 : decode cX3_isSo 13 = .ok (.ifCond .eq 23, 3) := by decide +kernel
theorem dX3_isSo_16 : decode cX3_isSo 16 = .ok (.iload_n 1, 1) := by decide +kernel
theorem dX3_isSo_17 : decode cX3_isSo 17 = .ok (.iload_n 2, 1) := by decide +kernel
theorem dX3_isSo_18 : decode cX3_isSo 18 = .ok (.if_icmp .eq 18, 3) := by decide +kernel
theorem dX3_isSo_21 : decode cX3_isSo 21 = .ok (.iload_n 3, 1) := by decide +kernel
theorem dX3_isSo_22 : decode cX3_isSo 22 = .ok (.iconst 1, 1) := by decide +kernel
theorem dX3_isSo_23 : decode cX3_isSo 23 = .ok (.if_icmp .lt 13, 3) := by decide +kernel
theorem dX3_isSo_26 : decode cX3_isSo 26 = .ok (.iload_n 3, 1) := by decide +kernel
theorem dX3_isSo_27 : decode cX3_isSo 27 = .ok (.bipush 9, 2) := by decide +kernel
theorem dX3_isSo_29 : decode cX3_isSo 29 = .ok (.if_icmp .gt 7, 3) := by decide +kernel
theorem dX3_isSo_32 : decode cX3_isSo 32 = .ok (.iconst 1, 1) := by decide +kernel
theorem dX3_isSo_33 : decode cX3_isSo 33 = .ok (.goto 4, 3) := by decide +kernel
theorem dX3_isSo_36 : decode cX3_isSo 36 = .ok (.iconst 0, 1) := by decide +kernel
theorem dX3_isSo_37 : decode cX3_isSo 37 = .ok (.ireturn, 1) := by decide +kernel
theorem dX3_settle_0 : decode cX3_settle 0 = .ok (.aload_n 0, 1) := by decide +kernel
theorem dX3_settle_1 : decode cX3_settle 1 = .ok (.getfield 15, 3) := by decide +kernel
theorem dX3_settle_4 : decode cX3_settle 4 = .ok (.aload_n 0, 1) := by decide +kernel
theorem dX3_settle_5 : decode cX3_settle 5 = .ok (.getfield 9, 3) := by decide +kernel
theorem dX3_settle_8 : decode cX3_settle 8 = .ok (.iload_n 1, 1) := by decide +kernel
theorem dX3_settle_9 : decode cX3_settle 9 = .ok (.iastore, 1) := by decide +kernel
theorem dX3_settle_10 : decode cX3_settle 10 = .ok (.aload_n 0, 1) := by decide +kernel
theorem dX3_settle_11 : decode cX3_settle 11 = .ok (.getfield 19, 3) := by decide +kernel
theorem dX3_settle_14 : decode cX3_settle 14 = .ok (.aload_n 0, 1) := by decide +kernel
theorem dX3_settle_15 : decode cX3_settle 15 = .ok (.getfield 9, 3) := by decide +kernel
theorem dX3_settle_18 : decode cX3_settle 18 = .ok (.bipush 6, 2) := by decide +kernel
theorem dX3_settle_20 : decode cX3_settle 20 = .ok (.iastore, 1) := by decide +kernel
theorem dX3_settle_21 : decode cX3_settle 21 = .ok (.aload_n 0, 1) := by decide +kernel
theorem dX3_settle_22 : decode cX3_settle 22 = .ok (.dup, 1) := by decide +kernel
theorem dX3_settle_23 : decode cX3_settle 23 = .ok (.getfield 9, 3) := by decide +kernel
theorem dX3_settle_26 : decode cX3_settle 26 = .ok (.dup_x1, 1) := by decide +kernel
theorem dX3_settle_27 : decode cX3_settle 27 = .ok (.iconst 1, 1) := by decide +kernel
theorem dX3_settle_28 : decode cX3_settle 28 = .ok (.iadd, 1) := by decide +kernel
theorem dX3_settle_29 : decode cX3_settle 29 = .ok (.putfield 9, 3) := by decide +kernel
theorem dX3_settle_32 : decode cX3_settle 32 = .ok (.ireturn, 1) := by decide +kernel
theorem dX3_offend_0 : decode cX3_offend 0 = .ok (.aload_n 0, 1) := by decide +kernel
theorem dX3_offend_1 : decode cX3_offend 1 = .ok (.getfield 25, 3) := by decide +kernel
theorem dX3_offend_4 : decode cX3_offend 4 = .ok (.aload_n 0, 1) := by decide +kernel
theorem dX3_offend_5 : decode cX3_offend 5 = .ok (.getfield 22, 3) := by decide +kernel
theorem dX3_offend_8 : decode cX3_offend 8 = .ok (.iload_n 1, 1) := by decide +kernel
theorem dX3_offend_9 : decode cX3_offend 9 = .ok (.iastore, 1) := by decide +kernel
theorem dX3_offend_10 : decode cX3_offend 10 = .ok (.aload_n 0, 1) := by decide +kernel
theorem dX3_offend_11 : decode cX3_offend 11 = .ok (.getfield 28, 3) := by decide +kernel
theorem dX3_offend_14 : decode cX3_offend 14 = .ok (.aload_n 0, 1) := by decide +kernel
theorem dX3_offend_15 : decode cX3_offend 15 = .ok (.getfield 22, 3) := by decide +kernel
theorem dX3_offend_18 : decode cX3_offend 18 = .ok (.iload_n 2, 1) := by decide +kernel
theorem dX3_offend_19 : decode cX3_offend 19 = .ok (.iastore, 1) := by decide +kernel
theorem dX3_offend_20 : decode cX3_offend 20 = .ok (.aload_n 0, 1) := by decide +kernel
theorem dX3_offend_21 : decode cX3_offend 21 = .ok (.getfield 31, 3) := by decide +kernel
theorem dX3_offend_24 : decode cX3_offend 24 = .ok (.aload_n 0, 1) := by decide +kernel
theorem dX3_offend_25 : decode cX3_offend 25 = .ok (.getfield 22, 3) := by decide +kernel
theorem dX3_offend_28 : decode cX3_offend 28 = .ok (.iload_n 3, 1) := by decide +kernel
theorem dX3_offend_29 : decode cX3_offend 29 = .ok (.iastore, 1) := by decide +kernel
theorem dX3_offend_30 : decode cX3_offend 30 = .ok (.aload_n 0, 1) := by decide +kernel
theorem dX3_offend_31 : decode cX3_offend 31 = .ok (.dup, 1) := by decide +kernel
theorem dX3_offend_32 : decode cX3_offend 32 = .ok (.getfield 22, 3) := by decide +kernel
theorem dX3_offend_35 : decode cX3_offend 35 = .ok (.dup_x1, 1) := by decide +kernel
theorem dX3_offend_36 : decode cX3_offend 36 = .ok (.iconst 1, 1) := by decide +kernel
theorem dX3_offend_37 : decode cX3_offend 37 = .ok (.iadd, 1) := by decide +kernel
theorem dX3_offend_38 : decode cX3_offend 38 = .ok (.putfield 22, 3) := by decide +kernel
theorem dX3_offend_41 : decode cX3_offend 41 = .ok (.ireturn, 1) := by decide +kernel
theorem dX3_seers_0 : decode cX3_seers 0 = .ok (.iconst 0, 1) := by decide +kernel
theorem dX3_seers_1 : decode cX3_seers 1 = .ok (.istore_n 3, 1) := by decide +kernel
theorem dX3_seers_2 : decode cX3_seers 2 = .ok (.iconst 0, 1) := by decide +kernel
theorem dX3_seers_3 : decode cX3_seers 3 = .ok (.istore 4, 2) := by decide +kernel
theorem dX3_seers_5 : decode cX3_seers 5 = .ok (.iload 4, 2) := by decide +kernel
theorem dX3_seers_7 : decode cX3_seers 7 = .ok (.aload_n 0, 1) := by decide +kernel
theorem dX3_seers_8 : decode cX3_seers 8 = .ok (.getfield 9, 3) := by decide +kernel
theorem dX3_seers_11 : decode cX3_seers 11 = .ok (.if_icmp .ge 45, 3) := by decide +kernel
theorem dX3_seers_14 : decode cX3_seers 14 = .ok (.aload_n 0, 1) := by decide +kernel
theorem dX3_seers_15 : decode cX3_seers 15 = .ok (.getfield 15, 3) := by decide +kernel
theorem dX3_seers_18 : decode cX3_seers 18 = .ok (.iload 4, 2) := by decide +kernel
theorem dX3_seers_20 : decode cX3_seers 20 = .ok (.iaload, 1) := by decide +kernel
theorem dX3_seers_21 : decode cX3_seers 21 = .ok (.iload_n 2, 1) := by decide +kernel
theorem dX3_seers_22 : decode cX3_seers 22 = .ok (.if_icmp .ne 28, 3) := by decide +kernel
theorem dX3_seers_25 : decode cX3_seers 25 = .ok (.iload 4, 2) := by decide +kernel
theorem dX3_seers_27 : decode cX3_seers 27 = .ok (.aload_n 0, 1) := by decide +kernel
theorem dX3_seers_28 : decode cX3_seers 28 = .ok (.getfield 25, 3) := by decide +kernel
theorem dX3_seers_31 : decode cX3_seers 31 = .ok (.iload_n 1, 1) := by decide +kernel
theorem dX3_seers_32 : decode cX3_seers 32 = .ok (.iaload, 1) := by decide +kernel
theorem dX3_seers_33 : decode cX3_seers 33 = .ok (.if_icmp .eq 17, 3) := by decide +kernel
theorem dX3_seers_36 : decode cX3_seers 36 = .ok (.iload 4, 2) := by decide +kernel
theorem dX3_seers_38 : decode cX3_seers 38 = .ok (.aload_n 0, 1) := by decide +kernel
theorem dX3_seers_39 : decode cX3_seers 39 = .ok (.getfield 28, 3) := by decide +kernel
theorem dX3_seers_42 : decode cX3_seers 42 = .ok (.iload_n 1, 1) := by decide +kernel
theorem dX3_seers_43 : decode cX3_seers 43 = .ok (.iaload, 1) := by decide +kernel
theorem dX3_seers_44 : decode cX3_seers 44 = .ok (.if_icmp .eq 6, 3) := by decide +kernel
theorem dX3_seers_47 : decode cX3_seers 47 = .ok (.iinc 3 1, 3) := by decide +kernel
theorem dX3_seers_50 : decode cX3_seers 50 = .ok (.iinc 4 1, 3) := by decide +kernel
theorem dX3_seers_53 : decode cX3_seers 53 = .ok (.goto (-48), 3) := by decide +kernel
theorem dX3_seers_56 : decode cX3_seers 56 = .ok (.iload_n 3, 1) := by decide +kernel
theorem dX3_seers_57 : decode cX3_seers 57 = .ok (.ireturn, 1) := by decide +kernel
theorem dX4_init_0 : decode cX4_init 0 = .ok (.aload_n 0, 1) := by decide +kernel
theorem dX4_init_1 : decode cX4_init 1 = .ok (.invokespecial 3, 3) := by decide +kernel
theorem dX4_init_4 : decode cX4_init 4 = .ok (.aload_n 0, 1) := by decide +kernel
theorem dX4_init_5 : decode cX4_init 5 = .ok (.iconst 0, 1) := by decide +kernel
theorem dX4_init_6 : decode cX4_init 6 = .ok (.putfield 9, 3) := by decide +kernel
theorem dX4_init_9 : decode cX4_init 9 = .ok (.aload_n 0, 1) := by decide +kernel
theorem dX4_init_10 : decode cX4_init 10 = .ok (.bipush 120, 2) := by decide +kernel
theorem dX4_init_12 : decode cX4_init 12 = .ok (.newarray .int, 2) := by decide +kernel
theorem dX4_init_14 : decode cX4_init 14 = .ok (.putfield 15, 3) := by decide +kernel
theorem dX4_init_17 : decode cX4_init 17 = .ok (.aload_n 0, 1) := by decide +kernel
theorem dX4_init_18 : decode cX4_init 18 = .ok (.bipush 121, 2) := by decide +kernel
theorem dX4_init_20 : decode cX4_init 20 = .ok (.newarray .int, 2) := by decide +kernel
theorem dX4_init_22 : decode cX4_init 22 = .ok (.putfield 19, 3) := by decide +kernel
theorem dX4_init_25 : decode cX4_init 25 = .ok (.aload_n 0, 1) := by decide +kernel
theorem dX4_init_26 : decode cX4_init 26 = .ok (.iconst 0, 1) := by decide +kernel
theorem dX4_init_27 : decode cX4_init 27 = .ok (.putfield 22, 3) := by decide +kernel
theorem dX4_init_30 : decode cX4_init 30 = .ok (.aload_n 0, 1) := by decide +kernel
theorem dX4_init_31 : decode cX4_init 31 = .ok (.bipush 121, 2) := by decide +kernel
theorem dX4_init_33 : decode cX4_init 33 = .ok (.newarray .int, 2) := by decide +kernel
theorem dX4_init_35 : decode cX4_init 35 = .ok (.putfield 25, 3) := by decide +kernel
theorem dX4_init_38 : decode cX4_init 38 = .ok (.aload_n 0, 1) := by decide +kernel
theorem dX4_init_39 : decode cX4_init 39 = .ok (.iconst 0, 1) := by decide +kernel
theorem dX4_init_40 : decode cX4_init 40 = .ok (.putfield 28, 3) := by decide +kernel
theorem dX4_init_43 : decode cX4_init 43 = .ok (.aload_n 0, 1) := by decide +kernel
theorem dX4_init_44 : decode cX4_init 44 = .ok (.iconst 0, 1) := by decide +kernel
theorem dX4_init_45 : decode cX4_init 45 = .ok (.putfield 31, 3) := by decide +kernel
theorem dX4_init_48 : decode cX4_init 48 = .ok (.aload_n 0, 1) := by decide +kernel
theorem dX4_init_49 : decode cX4_init 49 = .ok (.bipush 6, 2) := by decide +kernel
theorem dX4_init_51 : decode cX4_init 51 = .ok (.newarray .int, 2) := by decide +kernel
theorem dX4_init_53 : decode cX4_init 53 = .ok (.putfield 34, 3) := by decide +kernel
theorem dX4_init_56 : decode cX4_init 56 = .ok (.aload_n 0, 1) := by decide +kernel
theorem dX4_init_57 : decode cX4_init 57 = .ok (.bipush 121, 2) := by decide +kernel
theorem dX4_init_59 : decode cX4_init 59 = .ok (.newarray .int, 2) := by decide +kernel
theorem dX4_init_61 : decode cX4_init 61 = .ok (.putfield 37, 3) := by decide +kernel
theorem dX4_init_64 : decode cX4_init 64 = .ok (.return_, 1) := by decide +kernel
theorem dX4_take_0 : decode cX4_take 0 = .ok (.aload_n 0, 1) := by decide +kernel
theorem dX4_take_1 : decode cX4_take 1 = .ok (.getfield 9, 3) := by decide +kernel
theorem dX4_take_4 : decode cX4_take 4 = .ok (.bipush 120, 2) := by decide +kernel
theorem dX4_take_6 : decode cX4_take 6 = .ok (.if_icmp .ne 6, 3) := by decide +kernel
theorem dX4_take_9 : decode cX4_take 9 = .ok (.bipush (-3), 2) := by decide +kernel
theorem dX4_take_11 : decode cX4_take 11 = .ok (.ireturn, 1) := by decide +kernel
theorem dX4_take_12 : decode cX4_take 12 = .ok (.aload_n 0, 1) := by decide +kernel
theorem dX4_take_13 : decode cX4_take 13 = .ok (.getfield 15, 3) := by decide +kernel
theorem dX4_take_16 : decode cX4_take 16 = .ok (.aload_n 0, 1) := by decide +kernel
theorem dX4_take_17 : decode cX4_take 17 = .ok (.getfield 9, 3) := by decide +kernel
theorem dX4_take_20 : decode cX4_take 20 = .ok (.iload_n 1, 1) := by decide +kernel
theorem dX4_take_21 : decode cX4_take 21 = .ok (.iastore, 1) := by decide +kernel
theorem dX4_take_22 : decode cX4_take 22 = .ok (.aload_n 0, 1) := by decide +kernel
theorem dX4_take_23 : decode cX4_take 23 = .ok (.dup, 1) := by decide +kernel
theorem dX4_take_24 : decode cX4_take 24 = .ok (.getfield 9, 3) := by decide +kernel
theorem dX4_take_27 : decode cX4_take 27 = .ok (.iconst 1, 1) := by decide +kernel
theorem dX4_take_28 : decode cX4_take 28 = .ok (.iadd, 1) := by decide +kernel
theorem dX4_take_29 : decode cX4_take 29 = .ok (.putfield 9, 3) := by decide +kernel
theorem dX4_take_32 : decode cX4_take 32 = .ok (.aload_n 0, 1) := by decide +kernel
theorem dX4_take_33 : decode cX4_take 33 = .ok (.getfield 9, 3) := by decide +kernel
theorem dX4_take_36 : decode cX4_take 36 = .ok (.ireturn, 1) := by decide +kernel
theorem dX4_enact_0 : decode cX4_enact 0 = .ok (.aload_n 0, 1) := by decide +kernel
theorem dX4_enact_1 : decode cX4_enact 1 = .ok (.iconst 0, 1) := by decide +kernel
theorem dX4_enact_2 : decode cX4_enact 2 = .ok (.putfield 31, 3) := by decide +kernel
theorem dX4_enact_5 : decode cX4_enact 5 = .ok (.aload_n 0, 1) := by decide +kernel
theorem dX4_enact_6 : decode cX4_enact 6 = .ok (.iconst 0, 1) := by decide +kernel
theorem dX4_enact_7 : decode cX4_enact 7 = .ok (.putfield 28, 3) := by decide +kernel
theorem dX4_enact_10 : decode cX4_enact 10 = .ok (.aload_n 0, 1) := by decide +kernel
theorem dX4_enact_11 : decode cX4_enact 11 = .ok (.invokevirtual 40, 3) := by decide +kernel
theorem dX4_enact_14 : decode cX4_enact 14 = .ok (.istore_n 1, 1) := by decide +kernel
theorem dX4_enact_15 : decode cX4_enact 15 = .ok (.aload_n 0, 1) := by decide +kernel
theorem dX4_enact_16 : decode cX4_enact 16 = .ok (.iconst 0, 1) := by decide +kernel
theorem dX4_enact_17 : decode cX4_enact 17 = .ok (.putfield 9, 3) := by decide +kernel
theorem dX4_enact_20 : decode cX4_enact 20 = .ok (.iload_n 1, 1) := by decide +kernel
theorem dX4_enact_21 : decode cX4_enact 21 = .ok (.ifCond .ne 11, 3) := by decide +kernel
theorem dX4_enact_24 : decode cX4_enact 24 = .ok (.bipush (-100), 2) := by decide +kernel
theorem dX4_enact_26 : decode cX4_enact 26 = .ok (.aload_n 0, 1) := by decide +kernel
theorem dX4_enact_27 : decode cX4_enact 27 = .ok (.getfield 31, 3) := by decide +kernel
theorem dX4_enact_30 : decode cX4_enact 30 = .ok (.isub, 1) := by decide +kernel
theorem dX4_enact_31 : decode cX4_enact 31 = .ok (.ireturn, 1) := by decide +kernel
theorem dX4_enact_32 : decode cX4_enact 32 = .ok (.aload_n 0, 1) := by decide +kernel
theorem dX4_enact_33 : decode cX4_enact 33 = .ok (.getfield 19, 3) := by decide +kernel
theorem dX4_enact_36 : decode cX4_enact 36 = .ok (.astore_n 2, 1) := by decide +kernel
theorem dX4_enact_37 : decode cX4_enact 37 = .ok (.aload_n 0, 1) := by decide +kernel
theorem dX4_enact_38 : decode cX4_enact 38 = .ok (.aload_n 0, 1) := by decide +kernel
theorem dX4_enact_39 : decode cX4_enact 39 = .ok (.getfield 25, 3) := by decide +kernel
theorem dX4_enact_42 : decode cX4_enact 42 = .ok (.putfield 19, 3) := by decide +kernel
theorem dX4_enact_45 : decode cX4_enact 45 = .ok (.aload_n 0, 1) := by decide +kernel
theorem dX4_enact_46 : decode cX4_enact 46 = .ok (.aload_n 0, 1) := by decide +kernel
theorem dX4_enact_47 : decode cX4_enact 47 = .ok (.getfield 28, 3) := by decide +kernel
theorem dX4_enact_50 : decode cX4_enact 50 = .ok (.putfield 22, 3) := by decide +kernel
theorem dX4_enact_53 : decode cX4_enact 53 = .ok (.aload_n 0, 1) := by decide +kernel
theorem dX4_enact_54 : decode cX4_enact 54 = .ok (.aload_n 2, 1) := by decide +kernel
theorem dX4_enact_55 : decode cX4_enact 55 = .ok (.putfield 25, 3) := by decide +kernel
theorem dX4_enact_58 : decode cX4_enact 58 = .ok (.iconst 1, 1) := by decide +kernel
theorem dX4_enact_59 : decode cX4_enact 59 = .ok (.ireturn, 1) := by decide +kernel
theorem dX4_nextByte_0 : decode cX4_nextByte 0 = .ok (.aload_n 0, 1) := by decide +kernel
theorem dX4_nextByte_1 : decode cX4_nextByte 1 = .ok (.getfield 31, 3) := by decide +kernel
theorem dX4_nextByte_4 : decode cX4_nextByte 4 = .ok (.aload_n 0, 1) := by decide +kernel
theorem dX4_nextByte_5 : decode cX4_nextByte 5 = .ok (.getfield 9, 3) := by decide +kernel
theorem dX4_nextByte_8 : decode cX4_nextByte 8 = .ok (.if_icmp .ge 15, 3) := by decide +kernel
theorem dX4_nextByte_11 : decode cX4_nextByte 11 = .ok (.aload_n 0, 1) := by decide +kernel
theorem dX4_nextByte_12 : decode cX4_nextByte 12 = .ok (.getfield 15, 3) := by decide +kernel
theorem dX4_nextByte_15 : decode cX4_nextByte 15 = .ok (.aload_n 0, 1) := by decide +kernel
theorem dX4_nextByte_16 : decode cX4_nextByte 16 = .ok (.getfield 31, 3) := by decide +kernel
theorem dX4_nextByte_19 : decode cX4_nextByte 19 = .ok (.iaload, 1) := by decide +kernel
theorem dX4_nextByte_20 : decode cX4_nextByte 20 = .ok (.goto 4, 3) := by decide +kernel
theorem dX4_nextByte_23 : decode cX4_nextByte 23 = .ok (.iconst (-1), 1) := by decide +kernel
theorem dX4_nextByte_24 : decode cX4_nextByte 24 = .ok (.ireturn, 1) := by decide +kernel
theorem dX4_emit_0 : decode cX4_emit 0 = .ok (.aload_n 0, 1) := by decide +kernel
theorem dX4_emit_1 : decode cX4_emit 1 = .ok (.getfield 28, 3) := by decide +kernel
theorem dX4_emit_4 : decode cX4_emit 4 = .ok (.aload_n 0, 1) := by decide +kernel
theorem dX4_emit_5 : decode cX4_emit 5 = .ok (.getfield 25, 3) := by decide +kernel
theorem dX4_emit_8 : decode cX4_emit 8 = .ok (.arraylength, 1) := by decide +kernel
theorem dX4_emit_9 : decode cX4_emit 9 = .ok (.if_icmp .ge 23, 3) := by decide +kernel
theorem dX4_emit_12 : decode cX4_emit 12 = .ok (.aload_n 0, 1) := by decide +kernel
theorem dX4_emit_13 : decode cX4_emit 13 = .ok (.getfield 25, 3) := by decide +kernel
theorem dX4_emit_16 : decode cX4_emit 16 = .ok (.aload_n 0, 1) := by decide +kernel
theorem dX4_emit_17 : decode cX4_emit 17 = .ok (.getfield 28, 3) := by decide +kernel
theorem dX4_emit_20 : decode cX4_emit 20 = .ok (.iload_n 1, 1) := by decide +kernel
theorem dX4_emit_21 : decode cX4_emit 21 = .ok (.iastore, 1) := by decide +kernel
theorem dX4_emit_22 : decode cX4_emit 22 = .ok (.aload_n 0, 1) := by decide +kernel
theorem dX4_emit_23 : decode cX4_emit 23 = .ok (.dup, 1) := by decide +kernel
theorem dX4_emit_24 : decode cX4_emit 24 = .ok (.getfield 28, 3) := by decide +kernel
theorem dX4_emit_27 : decode cX4_emit 27 = .ok (.iconst 1, 1) := by decide +kernel
theorem dX4_emit_28 : decode cX4_emit 28 = .ok (.iadd, 1) := by decide +kernel
theorem dX4_emit_29 : decode cX4_emit 29 = .ok (.putfield 28, 3) := by decide +kernel
theorem dX4_emit_32 : decode cX4_emit 32 = .ok (.return_, 1) := by decide +kernel
theorem dX4_readLines_0 : decode cX4_readLines 0 = .ok (.iconst 0, 1) := by decide +kernel
theorem dX4_readLines_1 : decode cX4_readLines 1 = .ok (.istore_n 1, 1) := by decide +kernel
theorem dX4_readLines_2 : decode cX4_readLines 2 = .ok (.iload_n 1, 1) := by decide +kernel
theorem dX4_readLines_3 : decode cX4_readLines 3 = .ok (.bipush 120, 2) := by decide +kernel
theorem dX4_readLines_5 : decode cX4_readLines 5 = .ok (.if_icmp .gt 55, 3) := by decide +kernel
theorem dX4_readLines_8 : decode cX4_readLines 8 = .ok (.aload_n 0, 1) := by decide +kernel
theorem dX4_readLines_9 : decode cX4_readLines 9 = .ok (.invokevirtual 44, 3) := by decide +kernel
theorem dX4_readLines_12 : decode cX4_readLines 12 = .ok (.ifCond .ne 5, 3) := by decide +kernel
theorem dX4_readLines_15 : decode cX4_readLines 15 = .ok (.iconst 0, 1) := by decide +kernel
theorem dX4_readLines_16 : decode cX4_readLines 16 = .ok (.ireturn, 1) := by decide +kernel
theorem dX4_readLines_17 : decode cX4_readLines 17 = .ok (.aload_n 0, 1) := by decide +kernel
theorem dX4_readLines_18 : decode cX4_readLines 18 = .ok (.bipush (-59), 2) := by decide +kernel
theorem dX4_readLines_20 : decode cX4_readLines 20 = .ok (.invokevirtual 47, 3) := by decide +kernel
theorem dX4_readLines_23 : decode cX4_readLines 23 = .ok (.aload_n 0, 1) := by decide +kernel
theorem dX4_readLines_24 : decode cX4_readLines 24 = .ok (.invokevirtual 51, 3) := by decide +kernel
theorem dX4_readLines_27 : decode cX4_readLines 27 = .ok (.iconst (-1), 1) := by decide +kernel
theorem dX4_readLines_28 : decode cX4_readLines 28 = .ok (.if_icmp .ne 5, 3) := by decide +kernel
theorem dX4_readLines_31 : decode cX4_readLines 31 = .ok (.iconst 1, 1) := by decide +kernel
theorem dX4_readLines_32 : decode cX4_readLines 32 = .ok (.ireturn, 1) := by decide +kernel
theorem dX4_readLines_33 : decode cX4_readLines 33 = .ok (.aload_n 0, 1) := by decide +kernel
theorem dX4_readLines_34 : decode cX4_readLines 34 = .ok (.invokevirtual 51, 3) := by decide +kernel
theorem dX4_readLines_37 : decode cX4_readLines 37 = .ok (.bipush 59, 2) := by decide +kernel
theorem dX4_readLines_39 : decode cX4_readLines 39 = .ok (.if_icmp .eq 5, 3) := by decide +kernel
theorem dX4_readLines_42 : decode cX4_readLines 42 = .ok (.iconst 0, 1) := by decide +kernel
theorem dX4_readLines_43 : decode cX4_readLines 43 = .ok (.ireturn, 1) := by decide +kernel
theorem dX4_readLines_44 : decode cX4_readLines 44 = .ok (.aload_n 0, 1) := by decide +kernel
theorem dX4_readLines_45 : decode cX4_readLines 45 = .ok (.dup, 1) := by decide +kernel
theorem dX4_readLines_46 : decode cX4_readLines 46 = .ok (.getfield 31, 3) := by decide +kernel
theorem dX4_readLines_49 : decode cX4_readLines 49 = .ok (.iconst 1, 1) := by decide +kernel
theorem dX4_readLines_50 : decode cX4_readLines 50 = .ok (.iadd, 1) := by decide +kernel
theorem dX4_readLines_51 : decode cX4_readLines 51 = .ok (.putfield 31, 3) := by decide +kernel
theorem dX4_readLines_54 : decode cX4_readLines 54 = .ok (.iinc 1 1, 3) := by decide +kernel
theorem dX4_readLines_57 : decode cX4_readLines 57 = .ok (.goto (-55), 3) := by decide +kernel
theorem dX4_readLines_60 : decode cX4_readLines 60 = .ok (.iconst 0, 1) := by decide +kernel
theorem dX4_readLines_61 : decode cX4_readLines 61 = .ok (.ireturn, 1) := by decide +kernel
theorem dX4_readLine_0 : decode cX4_readLine 0 = .ok (.aload_n 0, 1) := by decide +kernel
theorem dX4_readLine_1 : decode cX4_readLine 1 = .ok (.iconst 0, 1) := by decide +kernel
theorem dX4_readLine_2 : decode cX4_readLine 2 = .ok (.iconst 0, 1) := by decide +kernel
theorem dX4_readLine_3 : decode cX4_readLine 3 = .ok (.invokevirtual 55, 3) := by decide +kernel
theorem dX4_readLine_6 : decode cX4_readLine 6 = .ok (.ifCond .ne 5, 3) := by decide +kernel
theorem dX4_readLine_9 : decode cX4_readLine 9 = .ok (.iconst 0, 1) := by decide +kernel
theorem dX4_readLine_10 : decode cX4_readLine 10 = .ok (.ireturn, 1) := by decide +kernel
theorem dX4_readLine_11 : decode cX4_readLine 11 = .ok (.aload_n 0, 1) := by decide +kernel
theorem dX4_readLine_12 : decode cX4_readLine 12 = .ok (.invokevirtual 51, 3) := by decide +kernel
theorem dX4_readLine_15 : decode cX4_readLine 15 = .ok (.bipush 63, 2) := by decide +kernel
theorem dX4_readLine_17 : decode cX4_readLine 17 = .ok (.if_icmp .eq 5, 3) := by decide +kernel
theorem dX4_readLine_20 : decode cX4_readLine 20 = .ok (.iconst 1, 1) := by decide +kernel
theorem dX4_readLine_21 : decode cX4_readLine 21 = .ok (.ireturn, 1) := by decide +kernel
theorem dX4_readLine_22 : decode cX4_readLine 22 = .ok (.aload_n 0, 1) := by decide +kernel
theorem dX4_readLine_23 : decode cX4_readLine 23 = .ok (.dup, 1) := by decide +kernel
theorem dX4_readLine_24 : decode cX4_readLine 24 = .ok (.getfield 31, 3) := by decide +kernel
theorem dX4_readLine_27 : decode cX4_readLine 27 = .ok (.iconst 1, 1) := by decide +kernel
theorem dX4_readLine_28 : decode cX4_readLine 28 = .ok (.iadd, 1) := by decide +kernel
theorem dX4_readLine_29 : decode cX4_readLine 29 = .ok (.putfield 31, 3) := by decide +kernel
theorem dX4_readLine_32 : decode cX4_readLine 32 = .ok (.aload_n 0, 1) := by decide +kernel
theorem dX4_readLine_33 : decode cX4_readLine 33 = .ok (.bipush (-63), 2) := by decide +kernel
theorem dX4_readLine_35 : decode cX4_readLine 35 = .ok (.invokevirtual 47, 3) := by decide +kernel
theorem dX4_readLine_38 : decode cX4_readLine 38 = .ok (.aload_n 0, 1) := by decide +kernel
theorem dX4_readLine_39 : decode cX4_readLine 39 = .ok (.iconst 0, 1) := by decide +kernel
theorem dX4_readLine_40 : decode cX4_readLine 40 = .ok (.iconst 0, 1) := by decide +kernel
theorem dX4_readLine_41 : decode cX4_readLine 41 = .ok (.invokevirtual 55, 3) := by decide +kernel
theorem dX4_readLine_44 : decode cX4_readLine 44 = .ok (.ireturn, 1) := by decide +kernel
theorem dX4_readRank_0 : decode cX4_readRank 0 = .ok (.iload_n 1, 1) := by decide +kernel
theorem dX4_readRank_1 : decode cX4_readRank 1 = .ok (.iconst 5, 1) := by decide +kernel
theorem dX4_readRank_2 : decode cX4_readRank 2 = .ok (.if_icmp .lt 9, 3) := by decide +kernel
theorem dX4_readRank_5 : decode cX4_readRank 5 = .ok (.aload_n 0, 1) := by decide +kernel
theorem dX4_readRank_6 : decode cX4_readRank 6 = .ok (.iload_n 2, 1) := by decide +kernel
theorem dX4_readRank_7 : decode cX4_readRank 7 = .ok (.invokevirtual 59, 3) := by decide +kernel
theorem dX4_readRank_10 : decode cX4_readRank 10 = .ok (.ireturn, 1) := by decide +kernel
theorem dX4_readRank_11 : decode cX4_readRank 11 = .ok (.aload_n 0, 1) := by decide +kernel
theorem dX4_readRank_12 : decode cX4_readRank 12 = .ok (.iload_n 1, 1) := by decide +kernel
theorem dX4_readRank_13 : decode cX4_readRank 13 = .ok (.iconst 1, 1) := by decide +kernel
theorem dX4_readRank_14 : decode cX4_readRank 14 = .ok (.iadd, 1) := by decide +kernel
theorem dX4_readRank_15 : decode cX4_readRank 15 = .ok (.iload_n 2, 1) := by decide +kernel
theorem dX4_readRank_16 : decode cX4_readRank 16 = .ok (.invokevirtual 55, 3) := by decide +kernel
theorem dX4_readRank_19 : decode cX4_readRank 19 = .ok (.ifCond .ne 5, 3) := by decide +kernel
theorem dX4_readRank_22 : decode cX4_readRank 22 = .ok (.iconst 0, 1) := by decide +kernel
theorem dX4_readRank_23 : decode cX4_readRank 23 = .ok (.ireturn, 1) := by decide +kernel
theorem dX4_readRank_24 : decode cX4_readRank 24 = .ok (.iconst 0, 1) := by decide +kernel
theorem dX4_readRank_25 : decode cX4_readRank 25 = .ok (.istore_n 3, 1) := by decide +kernel
theorem dX4_readRank_26 : decode cX4_readRank 26 = .ok (.iload_n 3, 1) := by decide +kernel
theorem dX4_readRank_27 : decode cX4_readRank 27 = .ok (.bipush 120, 2) := by decide +kernel
theorem dX4_readRank_29 : decode cX4_readRank 29 = .ok (.if_icmp .ge 63, 3) := by decide +kernel
theorem dX4_readRank_32 : decode cX4_readRank 32 = .ok (.aload_n 0, 1) := by decide +kernel
theorem dX4_readRank_33 : decode cX4_readRank 33 = .ok (.invokevirtual 51, 3) := by decide +kernel
theorem dX4_readRank_36 : decode cX4_readRank 36 = .ok (.istore 4, 2) := by decide +kernel
theorem dX4_readRank_38 : decode cX4_readRank 38 = .ok (.iload 4, 2) := by decide +kernel
theorem dX4_readRank_40 : decode cX4_readRank 40 = .ok (.invokestatic 63, 3) := by decide +kernel
theorem dX4_readRank_43 : decode cX4_readRank 43 = .ok (.iload_n 1, 1) := by decide +kernel
theorem dX4_readRank_44 : decode cX4_readRank 44 = .ok (.if_icmp .eq 5, 3) := by decide +kernel
theorem dX4_readRank_47 : decode cX4_readRank 47 = .ok (.iconst 1, 1) := by decide +kernel
theorem dX4_readRank_48 : decode cX4_readRank 48 = .ok (.ireturn, 1) := by decide +kernel
theorem dX4_readRank_49 : decode cX4_readRank 49 = .ok (.aload_n 0, 1) := by decide +kernel
theorem dX4_readRank_50 : decode cX4_readRank 50 = .ok (.dup, 1) := by decide +kernel
theorem dX4_readRank_51 : decode cX4_readRank 51 = .ok (.getfield 31, 3) := by decide +kernel
theorem dX4_readRank_54 : decode cX4_readRank 54 = .ok (.iconst 1, 1) := by decide +kernel
theorem dX4_readRank_55 : decode cX4_readRank 55 = .ok (.iadd, 1) := by decide +kernel
theorem dX4_readRank_56 : decode cX4_readRank 56 = .ok (.putfield 31, 3) := by decide +kernel
theorem dX4_readRank_59 : decode cX4_readRank 59 = .ok (.aload_n 0, 1) := by decide +kernel
theorem dX4_readRank_60 : decode cX4_readRank 60 = .ok (.iload_n 1, 1) := by decide +kernel
theorem dX4_readRank_61 : decode cX4_readRank 61 = .ok (.iconst 1, 1) := by decide +kernel
theorem dX4_readRank_62 : decode cX4_readRank 62 = .ok (.iadd, 1) := by decide +kernel
theorem dX4_readRank_63 : decode cX4_readRank 63 = .ok (.iload_n 2, 1) := by decide +kernel
theorem dX4_readRank_64 : decode cX4_readRank 64 = .ok (.invokevirtual 55, 3) := by decide +kernel
theorem dX4_readRank_67 : decode cX4_readRank 67 = .ok (.ifCond .ne 5, 3) := by decide +kernel
theorem dX4_readRank_70 : decode cX4_readRank 70 = .ok (.iconst 0, 1) := by decide +kernel
theorem dX4_readRank_71 : decode cX4_readRank 71 = .ok (.ireturn, 1) := by decide +kernel
theorem dX4_readRank_72 : decode cX4_readRank 72 = .ok (.aload_n 0, 1) := by decide +kernel
theorem dX4_readRank_73 : decode cX4_readRank 73 = .ok (.iload 4, 2) := by decide +kernel
theorem dX4_readRank_75 : decode cX4_readRank 75 = .ok (.ineg, 1) := by decide +kernel
theorem dX4_readRank_76 : decode cX4_readRank 76 = .ok (.invokevirtual 47, 3) := by decide +kernel
theorem dX4_readRank_79 : decode cX4_readRank 79 = .ok (.iload_n 1, 1) := by decide +kernel
theorem dX4_readRank_80 : decode cX4_readRank 80 = .ok (.iconst 2, 1) := by decide +kernel
theorem dX4_readRank_81 : decode cX4_readRank 81 = .ok (.if_icmp .ne 5, 3) := by decide +kernel
theorem dX4_readRank_84 : decode cX4_readRank 84 = .ok (.iconst 1, 1) := by decide +kernel
theorem dX4_readRank_85 : decode cX4_readRank 85 = .ok (.ireturn, 1) := by decide +kernel
theorem dX4_readRank_86 : decode cX4_readRank 86 = .ok (.iinc 3 1, 3) := by decide +kernel
theorem dX4_readRank_89 : decode cX4_readRank 89 = .ok (.goto (-63), 3) := by decide +kernel
theorem dX4_readRank_92 : decode cX4_readRank 92 = .ok (.iconst 1, 1) := by decide +kernel
theorem dX4_readRank_93 : decode cX4_readRank 93 = .ok (.ireturn, 1) := by decide +kernel
theorem dX4_readOperand_0 : decode cX4_readOperand 0 = .ok (.aload_n 0, 1) := by decide +kernel
theorem dX4_readOperand_1 : decode cX4_readOperand 1 = .ok (.invokevirtual 51, 3) := by decide +kernel
theorem dX4_readOperand_4 : decode cX4_readOperand 4 = .ok (.istore_n 2, 1) := by decide +kernel
theorem dX4_readOperand_5 : decode cX4_readOperand 5 = .ok (.iload_n 2, 1) := by decide +kernel
theorem dX4_readOperand_6 : decode cX4_readOperand 6 = .ok (.invokestatic 67, 3) := by decide +kernel
theorem dX4_readOperand_9 : decode cX4_readOperand 9 = .ok (.ifCond .eq 8, 3) := by decide +kernel
theorem dX4_readOperand_12 : decode cX4_readOperand 12 = .ok (.aload_n 0, 1) := by decide +kernel
theorem dX4_readOperand_13 : decode cX4_readOperand 13 = .ok (.invokevirtual 70, 3) := by decide +kernel
theorem dX4_readOperand_16 : decode cX4_readOperand 16 = .ok (.ireturn, 1) := by decide +kernel
theorem dX4_readOperand_17 : decode cX4_readOperand 17 = .ok (.iload_n 2, 1) := by decide +kernel
theorem dX4_readOperand_18 : decode cX4_readOperand 18 = .ok (.invokestatic 73, 3) := by decide +kernel
theorem dX4_readOperand_21 : decode cX4_readOperand 21 = .ok (.istore_n 3, 1) := by decide +kernel
theorem dX4_readOperand_22 : decode cX4_readOperand 22 = .ok (.iload_n 3, 1) := by decide +kernel
theorem dX4_readOperand_23 : decode cX4_readOperand 23 = .ok (.ifCond .lt 24, 3) := by decide +kernel
theorem dX4_readOperand_26 : decode cX4_readOperand 26 = .ok (.aload_n 0, 1) := by decide +kernel
theorem dX4_readOperand_27 : decode cX4_readOperand 27 = .ok (.dup, 1) := by decide +kernel
theorem dX4_readOperand_28 : decode cX4_readOperand 28 = .ok (.getfield 31, 3) := by decide +kernel
theorem dX4_readOperand_31 : decode cX4_readOperand 31 = .ok (.iconst 1, 1) := by decide +kernel
theorem dX4_readOperand_32 : decode cX4_readOperand 32 = .ok (.iadd, 1) := by decide +kernel
theorem dX4_readOperand_33 : decode cX4_readOperand 33 = .ok (.putfield 31, 3) := by decide +kernel
theorem dX4_readOperand_36 : decode cX4_readOperand 36 = .ok (.aload_n 0, 1) := by decide +kernel
theorem dX4_readOperand_37 : decode cX4_readOperand 37 = .ok (.sipush 10000, 3) := by decide +kernel
theorem dX4_readOperand_40 : decode cX4_readOperand 40 = .ok (.iload_n 3, 1) := by decide +kernel
theorem dX4_readOperand_41 : decode cX4_readOperand 41 = .ok (.iadd, 1) := by decide +kernel
theorem dX4_readOperand_42 : decode cX4_readOperand 42 = .ok (.invokevirtual 47, 3) := by decide +kernel
theorem dX4_readOperand_45 : decode cX4_readOperand 45 = .ok (.iconst 1, 1) := by decide +kernel
theorem dX4_readOperand_46 : decode cX4_readOperand 46 = .ok (.ireturn, 1) := by decide +kernel
theorem dX4_readOperand_47 : decode cX4_readOperand 47 = .ok (.iload_n 2, 1) := by decide +kernel
theorem dX4_readOperand_48 : decode cX4_readOperand 48 = .ok (.bipush 40, 2) := by decide +kernel
theorem dX4_readOperand_50 : decode cX4_readOperand 50 = .ok (.if_icmp .eq 15, 3) := by decide +kernel
theorem dX4_readOperand_53 : decode cX4_readOperand 53 = .ok (.iload_n 2, 1) := by decide +kernel
theorem dX4_readOperand_54 : decode cX4_readOperand 54 = .ok (.bipush 33, 2) := by decide +kernel
theorem dX4_readOperand_56 : decode cX4_readOperand 56 = .ok (.if_icmp .eq 9, 3) := by decide +kernel
theorem dX4_readOperand_59 : decode cX4_readOperand 59 = .ok (.iload_n 2, 1) := by decide +kernel
theorem dX4_readOperand_60 : decode cX4_readOperand 60 = .ok (.bipush 45, 2) := by decide +kernel
theorem dX4_readOperand_62 : decode cX4_readOperand 62 = .ok (.if_icmp .ne 9, 3) := by decide +kernel
theorem dX4_readOperand_65 : decode cX4_readOperand 65 = .ok (.iload_n 1, 1) := by decide +kernel
theorem dX4_readOperand_66 : decode cX4_readOperand 66 = .ok (.bipush 6, 2) := by decide +kernel
theorem dX4_readOperand_68 : decode cX4_readOperand 68 = .ok (.if_icmp .lt 5, 3) := by decide +kernel
theorem dX4_readOperand_71 : decode cX4_readOperand 71 = .ok (.iconst 0, 1) := by decide +kernel
theorem dX4_readOperand_72 : decode cX4_readOperand 72 = .ok (.ireturn, 1) := by decide +kernel
theorem dX4_readOperand_73 : decode cX4_readOperand 73 = .ok (.aload_n 0, 1) := by decide +kernel
theorem dX4_readOperand_74 : decode cX4_readOperand 74 = .ok (.dup, 1) := by decide +kernel
theorem dX4_readOperand_75 : decode cX4_readOperand 75 = .ok (.getfield 31, 3) := by decide +kernel
theorem dX4_readOperand_78 : decode cX4_readOperand 78 = .ok (.iconst 1, 1) := by decide +kernel
theorem dX4_readOperand_79 : decode cX4_readOperand 79 = .ok (.iadd, 1) := by decide +kernel
theorem dX4_readOperand_80 : decode cX4_readOperand 80 = .ok (.putfield 31, 3) := by decide +kernel
theorem dX4_readOperand_83 : decode cX4_readOperand 83 = .ok (.iload_n 2, 1) := by decide +kernel
theorem dX4_readOperand_84 : decode cX4_readOperand 84 = .ok (.bipush 40, 2) := by decide +kernel
theorem dX4_readOperand_86 : decode cX4_readOperand 86 = .ok (.if_icmp .ne 11, 3) := by decide +kernel
theorem dX4_readOperand_89 : decode cX4_readOperand 89 = .ok (.aload_n 0, 1) := by decide +kernel
theorem dX4_readOperand_90 : decode cX4_readOperand 90 = .ok (.iload_n 1, 1) := by decide +kernel
theorem dX4_readOperand_91 : decode cX4_readOperand 91 = .ok (.iconst 1, 1) := by decide +kernel
theorem dX4_readOperand_92 : decode cX4_readOperand 92 = .ok (.iadd, 1) := by decide +kernel
theorem dX4_readOperand_93 : decode cX4_readOperand 93 = .ok (.invokevirtual 76, 3) := by decide +kernel
theorem dX4_readOperand_96 : decode cX4_readOperand 96 = .ok (.ireturn, 1) := by decide +kernel
theorem dX4_readOperand_97 : decode cX4_readOperand 97 = .ok (.aload_n 0, 1) := by decide +kernel
theorem dX4_readOperand_98 : decode cX4_readOperand 98 = .ok (.iload_n 1, 1) := by decide +kernel
theorem dX4_readOperand_99 : decode cX4_readOperand 99 = .ok (.iconst 1, 1) := by decide +kernel
theorem dX4_readOperand_100 : decode cX4_readOperand 100 = .ok (.iadd, 1) := by decide +kernel
theorem dX4_readOperand_101 : decode cX4_readOperand 101 = .ok (.invokevirtual 59, 3) := by decide +kernel
theorem dX4_readOperand_104 : decode cX4_readOperand 104 = .ok (.ifCond .ne 5, 3) := by decide +kernel
theorem dX4_readOperand_107 : decode cX4_readOperand 107 = .ok (.iconst 0, 1) := by decide +kernel
theorem dX4_readOperand_108 : decode cX4_readOperand 108 = .ok (.ireturn, 1) := by decide +kernel
theorem dX4_readOperand_109 : decode cX4_readOperand 109 = .ok (.aload_n 0, 1) := by decide +kernel
theorem dX4_readOperand_110 : decode cX4_readOperand 110 = .ok (.iload_n 2, 1) := by decide +kernel
theorem dX4_readOperand_111 : decode cX4_readOperand 111 = .ok (.bipush 33, 2) := by decide +kernel
theorem dX4_readOperand_113 : decode cX4_readOperand 113 = .ok (.if_icmp .ne 8, 3) := by decide +kernel
theorem dX4_readOperand_116 : decode cX4_readOperand 116 = .ok (.bipush (-33), 2) := by decide +kernel
theorem dX4_readOperand_118 : decode cX4_readOperand 118 = .ok (.goto 5, 3) := by decide +kernel
theorem dX4_readOperand_121 : decode cX4_readOperand 121 = .ok (.bipush (-126), 2) := by decide +kernel
theorem dX4_readOperand_123 : decode cX4_readOperand 123 = .ok (.invokevirtual 47, 3) := by decide +kernel
theorem dX4_readOperand_126 : decode cX4_readOperand 126 = .ok (.iconst 1, 1) := by decide +kernel
theorem dX4_readOperand_127 : decode cX4_readOperand 127 = .ok (.ireturn, 1) := by decide +kernel
theorem dX4_readClosed_0 : decode cX4_readClosed 0 = .ok (.aload_n 0, 1) := by decide +kernel
theorem dX4_readClosed_1 : decode cX4_readClosed 1 = .ok (.iconst 0, 1) := by decide +kernel
theorem dX4_readClosed_2 : decode cX4_readClosed 2 = .ok (.iload_n 1, 1) := by decide +kernel
theorem dX4_readClosed_3 : decode cX4_readClosed 3 = .ok (.invokevirtual 55, 3) := by decide +kernel
theorem dX4_readClosed_6 : decode cX4_readClosed 6 = .ok (.ifCond .eq 12, 3) := by decide +kernel
theorem dX4_readClosed_9 : decode cX4_readClosed 9 = .ok (.aload_n 0, 1) := by decide +kernel
theorem dX4_readClosed_10 : decode cX4_readClosed 10 = .ok (.invokevirtual 51, 3) := by decide +kernel
theorem dX4_readClosed_13 : decode cX4_readClosed 13 = .ok (.bipush 41, 2) := by decide +kernel
theorem dX4_readClosed_15 : decode cX4_readClosed 15 = .ok (.if_icmp .eq 5, 3) := by decide +kernel
theorem dX4_readClosed_18 : decode cX4_readClosed 18 = .ok (.iconst 0, 1) := by decide +kernel
theorem dX4_readClosed_19 : decode cX4_readClosed 19 = .ok (.ireturn, 1) := by decide +kernel
theorem dX4_readClosed_20 : decode cX4_readClosed 20 = .ok (.aload_n 0, 1) := by decide +kernel
theorem dX4_readClosed_21 : decode cX4_readClosed 21 = .ok (.dup, 1) := by decide +kernel
theorem dX4_readClosed_22 : decode cX4_readClosed 22 = .ok (.getfield 31, 3) := by decide +kernel
theorem dX4_readClosed_25 : decode cX4_readClosed 25 = .ok (.iconst 1, 1) := by decide +kernel
theorem dX4_readClosed_26 : decode cX4_readClosed 26 = .ok (.iadd, 1) := by decide +kernel
theorem dX4_readClosed_27 : decode cX4_readClosed 27 = .ok (.putfield 31, 3) := by decide +kernel
theorem dX4_readClosed_30 : decode cX4_readClosed 30 = .ok (.iconst 1, 1) := by decide +kernel
theorem dX4_readClosed_31 : decode cX4_readClosed 31 = .ok (.ireturn, 1) := by decide +kernel
theorem dX4_readNumber_0 : decode cX4_readNumber 0 = .ok (.iconst 0, 1) := by decide +kernel
theorem dX4_readNumber_1 : decode cX4_readNumber 1 = .ok (.istore_n 1, 1) := by decide +kernel
theorem dX4_readNumber_2 : decode cX4_readNumber 2 = .ok (.iconst 0, 1) := by decide +kernel
theorem dX4_readNumber_3 : decode cX4_readNumber 3 = .ok (.istore_n 2, 1) := by decide +kernel
theorem dX4_readNumber_4 : decode cX4_readNumber 4 = .ok (.iload_n 2, 1) := by decide +kernel
theorem dX4_readNumber_5 : decode cX4_readNumber 5 = .ok (.iconst 4, 1) := by decide +kernel
theorem dX4_readNumber_6 : decode cX4_readNumber 6 = .ok (.if_icmp .ge 42, 3) := by decide +kernel
theorem dX4_readNumber_9 : decode cX4_readNumber 9 = .ok (.aload_n 0, 1) := by decide +kernel
theorem dX4_readNumber_10 : decode cX4_readNumber 10 = .ok (.invokevirtual 51, 3) := by decide +kernel
theorem dX4_readNumber_13 : decode cX4_readNumber 13 = .ok (.invokestatic 67, 3) := by decide +kernel
theorem dX4_readNumber_16 : decode cX4_readNumber 16 = .ok (.ifCond .eq 32, 3) := by decide +kernel
theorem dX4_readNumber_19 : decode cX4_readNumber 19 = .ok (.iload_n 1, 1) := by decide +kernel
theorem dX4_readNumber_20 : decode cX4_readNumber 20 = .ok (.bipush 10, 2) := by decide +kernel
theorem dX4_readNumber_22 : decode cX4_readNumber 22 = .ok (.imul, 1) := by decide +kernel
theorem dX4_readNumber_23 : decode cX4_readNumber 23 = .ok (.aload_n 0, 1) := by decide +kernel
theorem dX4_readNumber_24 : decode cX4_readNumber 24 = .ok (.invokevirtual 51, 3) := by decide +kernel
theorem dX4_readNumber_27 : decode cX4_readNumber 27 = .ok (.iadd, 1) := by decide +kernel
theorem dX4_readNumber_28 : decode cX4_readNumber 28 = .ok (.bipush 48, 2) := by decide +kernel
theorem dX4_readNumber_30 : decode cX4_readNumber 30 = .ok (.isub, 1) := by decide +kernel
theorem dX4_readNumber_31 : decode cX4_readNumber 31 = .ok (.istore_n 1, 1) := by decide +kernel
theorem dX4_readNumber_32 : decode cX4_readNumber 32 = .ok (.aload_n 0, 1) := by decide +kernel
theorem dX4_readNumber_33 : decode cX4_readNumber 33 = .ok (.dup, 1) := by decide +kernel
theorem dX4_readNumber_34 : decode cX4_readNumber 34 = .ok (.getfield 31, 3) := by decide +kernel
theorem dX4_readNumber_37 : decode cX4_readNumber 37 = .ok (.iconst 1, 1) := by decide +kernel
theorem dX4_readNumber_38 : decode cX4_readNumber 38 = .ok (.iadd, 1) := by decide +kernel
theorem dX4_readNumber_39 : decode cX4_readNumber 39 = .ok (.putfield 31, 3) := by decide +kernel
theorem dX4_readNumber_42 : decode cX4_readNumber 42 = .ok (.iinc 2 1, 3) := by decide +kernel
theorem dX4_readNumber_45 : decode cX4_readNumber 45 = .ok (.goto (-41), 3) := by decide +kernel
theorem dX4_readNumber_48 : decode cX4_readNumber 48 = .ok (.aload_n 0, 1) := by decide +kernel
theorem dX4_readNumber_49 : decode cX4_readNumber 49 = .ok (.iload_n 1, 1) := by decide +kernel
theorem dX4_readNumber_50 : decode cX4_readNumber 50 = .ok (.invokevirtual 47, 3) := by decide +kernel
theorem dX4_readNumber_53 : decode cX4_readNumber 53 = .ok (.iconst 1, 1) := by decide +kernel
theorem dX4_readNumber_54 : decode cX4_readNumber 54 = .ok (.ireturn, 1) := by decide +kernel
theorem dX4_isDigit_0 : decode cX4_isDigit 0 = .ok (.iload_n 0, 1) := by decide +kernel
theorem dX4_isDigit_1 : decode cX4_isDigit 1 = .ok (.bipush 48, 2) := by decide +kernel
theorem dX4_isDigit_3 : decode cX4_isDigit 3 = .ok (.if_icmp .lt 13, 3) := by decide +kernel
theorem dX4_isDigit_6 : decode cX4_isDigit 6 = .ok (.iload_n 0, 1) := by decide +kernel
theorem dX4_isDigit_7 : decode cX4_isDigit 7 = .ok (.bipush 57, 2) := by decide +kernel
theorem dX4_isDigit_9 : decode cX4_isDigit 9 = .ok (.if_icmp .gt 7, 3) := by decide +kernel
theorem dX4_isDigit_12 : decode cX4_isDigit 12 = .ok (.iconst 1, 1) := by decide +kernel
theorem dX4_isDigit_13 : decode cX4_isDigit 13 = .ok (.goto 4, 3) := by decide +kernel
theorem dX4_isDigit_16 : decode cX4_isDigit 16 = .ok (.iconst 0, 1) := by decide +kernel
theorem dX4_isDigit_17 : decode cX4_isDigit 17 = .ok (.ireturn, 1) := by decide +kernel
theorem dX4_nameOf_0 : decode cX4_nameOf 0 = .ok (.iload_n 0, 1) := by decide +kernel
theorem dX4_nameOf_1 : decode cX4_nameOf 1 = .ok (.lookupswitch 71 #[(97, 61), (104, 63), (110, 67), (111, 69), (115, 65), (119, 59)], 59) := by decide +kernel
theorem dX4_nameOf_60 : decode cX4_nameOf 60 = .ok (.iconst 0, 1) := by decide +kernel
theorem dX4_nameOf_61 : decode cX4_nameOf 61 = .ok (.ireturn, 1) := by decide +kernel
theorem dX4_nameOf_62 : decode cX4_nameOf 62 = .ok (.iconst 1, 1) := by decide +kernel
theorem dX4_nameOf_63 : decode cX4_nameOf 63 = .ok (.ireturn, 1) := by decide +kernel
theorem dX4_nameOf_64 : decode cX4_nameOf 64 = .ok (.iconst 2, 1) := by decide +kernel
theorem dX4_nameOf_65 : decode cX4_nameOf 65 = .ok (.ireturn, 1) := by decide +kernel
theorem dX4_nameOf_66 : decode cX4_nameOf 66 = .ok (.iconst 3, 1) := by decide +kernel
theorem dX4_nameOf_67 : decode cX4_nameOf 67 = .ok (.ireturn, 1) := by decide +kernel
theorem dX4_nameOf_68 : decode cX4_nameOf 68 = .ok (.iconst 4, 1) := by decide +kernel
theorem dX4_nameOf_69 : decode cX4_nameOf 69 = .ok (.ireturn, 1) := by decide +kernel
theorem dX4_nameOf_70 : decode cX4_nameOf 70 = .ok (.iconst 5, 1) := by decide +kernel
theorem dX4_nameOf_71 : decode cX4_nameOf 71 = .ok (.ireturn, 1) := by decide +kernel
theorem dX4_nameOf_72 : decode cX4_nameOf 72 = .ok (.iconst (-1), 1) := by decide +kernel
theorem dX4_nameOf_73 : decode cX4_nameOf 73 = .ok (.ireturn, 1) := by decide +kernel
theorem dX4_rankOf_0 : decode cX4_rankOf 0 = .ok (.iload_n 0, 1) := by decide +kernel
theorem dX4_rankOf_1 : decode cX4_rankOf 1 = .ok (.lookupswitch 101 #[(37, 99), (38, 93), (42, 99), (43, 97), (45, 97), (47, 99), (60, 95), (61, 95), (62, 95), (124, 91)], 91) := by decide +kernel
theorem dX4_rankOf_92 : decode cX4_rankOf 92 = .ok (.iconst 0, 1) := by decide +kernel
theorem dX4_rankOf_93 : decode cX4_rankOf 93 = .ok (.ireturn, 1) := by decide +kernel
theorem dX4_rankOf_94 : decode cX4_rankOf 94 = .ok (.iconst 1, 1) := by decide +kernel
theorem dX4_rankOf_95 : decode cX4_rankOf 95 = .ok (.ireturn, 1) := by decide +kernel
theorem dX4_rankOf_96 : decode cX4_rankOf 96 = .ok (.iconst 2, 1) := by decide +kernel
theorem dX4_rankOf_97 : decode cX4_rankOf 97 = .ok (.ireturn, 1) := by decide +kernel
theorem dX4_rankOf_98 : decode cX4_rankOf 98 = .ok (.iconst 3, 1) := by decide +kernel
theorem dX4_rankOf_99 : decode cX4_rankOf 99 = .ok (.ireturn, 1) := by decide +kernel
theorem dX4_rankOf_100 : decode cX4_rankOf 100 = .ok (.iconst 4, 1) := by decide +kernel
theorem dX4_rankOf_101 : decode cX4_rankOf 101 = .ok (.ireturn, 1) := by decide +kernel
theorem dX4_rankOf_102 : decode cX4_rankOf 102 = .ok (.iconst (-1), 1) := by decide +kernel
theorem dX4_rankOf_103 : decode cX4_rankOf 103 = .ok (.ireturn, 1) := by decide +kernel
theorem dX4_tell_0 : decode cX4_tell 0 = .ok (.aload_n 0, 1) := by decide +kernel
theorem dX4_tell_1 : decode cX4_tell 1 = .ok (.getfield 34, 3) := by decide +kernel
theorem dX4_tell_4 : decode cX4_tell 4 = .ok (.iconst 0, 1) := by decide +kernel
theorem dX4_tell_5 : decode cX4_tell 5 = .ok (.iload_n 1, 1) := by decide +kernel
theorem dX4_tell_6 : decode cX4_tell 6 = .ok (.iastore, 1) := by decide +kernel
theorem dX4_tell_7 : decode cX4_tell 7 = .ok (.aload_n 0, 1) := by decide +kernel
theorem dX4_tell_8 : decode cX4_tell 8 = .ok (.getfield 34, 3) := by decide +kernel
theorem dX4_tell_11 : decode cX4_tell 11 = .ok (.iconst 1, 1) := by decide +kernel
theorem dX4_tell_12 : decode cX4_tell 12 = .ok (.iload_n 2, 1) := by decide +kernel
theorem dX4_tell_13 : decode cX4_tell 13 = .ok (.iastore, 1) := by decide +kernel
theorem dX4_tell_14 : decode cX4_tell 14 = .ok (.aload_n 0, 1) := by decide +kernel
theorem dX4_tell_15 : decode cX4_tell 15 = .ok (.getfield 34, 3) := by decide +kernel
theorem dX4_tell_18 : decode cX4_tell 18 = .ok (.iconst 2, 1) := by decide +kernel
theorem dX4_tell_19 : decode cX4_tell 19 = .ok (.iload_n 3, 1) := by decide +kernel
theorem dX4_tell_20 : decode cX4_tell 20 = .ok (.iastore, 1) := by decide +kernel
theorem dX4_tell_21 : decode cX4_tell 21 = .ok (.aload_n 0, 1) := by decide +kernel
theorem dX4_tell_22 : decode cX4_tell 22 = .ok (.getfield 34, 3) := by decide +kernel
theorem dX4_tell_25 : decode cX4_tell 25 = .ok (.iconst 3, 1) := by decide +kernel
theorem dX4_tell_26 : decode cX4_tell 26 = .ok (.iload 4, 2) := by decide +kernel
theorem dX4_tell_28 : decode cX4_tell 28 = .ok (.iastore, 1) := by decide +kernel
theorem dX4_tell_29 : decode cX4_tell 29 = .ok (.aload_n 0, 1) := by decide +kernel
theorem dX4_tell_30 : decode cX4_tell 30 = .ok (.getfield 34, 3) := by decide +kernel
theorem dX4_tell_33 : decode cX4_tell 33 = .ok (.iconst 4, 1) := by decide +kernel
theorem dX4_tell_34 : decode cX4_tell 34 = .ok (.iload 5, 2) := by decide +kernel
theorem dX4_tell_36 : decode cX4_tell 36 = .ok (.iastore, 1) := by decide +kernel
theorem dX4_tell_37 : decode cX4_tell 37 = .ok (.aload_n 0, 1) := by decide +kernel
theorem dX4_tell_38 : decode cX4_tell 38 = .ok (.getfield 34, 3) := by decide +kernel
theorem dX4_tell_41 : decode cX4_tell 41 = .ok (.iconst 5, 1) := by decide +kernel
theorem dX4_tell_42 : decode cX4_tell 42 = .ok (.iload 6, 2) := by decide +kernel
theorem dX4_tell_44 : decode cX4_tell 44 = .ok (.iastore, 1) := by decide +kernel
theorem dX4_tell_45 : decode cX4_tell 45 = .ok (.return_, 1) := by decide +kernel
theorem dX4_held_0 : decode cX4_held 0 = .ok (.iload_n 0, 1) := by decide +kernel
theorem dX4_held_1 : decode cX4_held 1 = .ok (.ifCond .ge 7, 3) := by decide +kernel
theorem dX4_held_4 : decode cX4_held 4 = .ok (.iconst 0, 1) := by decide +kernel
theorem dX4_held_5 : decode cX4_held 5 = .ok (.goto 15, 3) := by decide +kernel
theorem dX4_held_8 : decode cX4_held 8 = .ok (.iload_n 0, 1) := by decide +kernel
theorem dX4_held_9 : decode cX4_held 9 = .ok (.bipush 9, 2) := by decide +kernel
theorem dX4_held_11 : decode cX4_held 11 = .ok (.if_icmp .le 8, 3) := by decide +kernel
theorem dX4_held_14 : decode cX4_held 14 = .ok (.bipush 9, 2) := by decide +kernel
theorem dX4_held_16 : decode cX4_held 16 = .ok (.goto 4, 3) := by decide +kernel
theorem dX4_held_19 : decode cX4_held 19 = .ok (.iload_n 0, 1) := by decide +kernel
theorem dX4_held_20 : decode cX4_held 20 = .ok (.ireturn, 1) := by decide +kernel
theorem dX4_worth_0 : decode cX4_worth 0 = .ok (.aload_n 0, 1) := by decide +kernel
theorem dX4_worth_1 : decode cX4_worth 1 = .ok (.getfield 22, 3) := by decide +kernel
theorem dX4_worth_4 : decode cX4_worth 4 = .ok (.ifCond .ne 34, 3) := by decide +kernel
theorem dX4_worth_7 : decode cX4_worth 7 = .ok (.iconst 1, 1) := by decide +kernel
theorem dX4_worth_8 : decode cX4_worth 8 = .ok (.aload_n 0, 1) := by decide +kernel
theorem dX4_worth_9 : decode cX4_worth 9 = .ok (.getfield 34, 3) := by decide +kernel
theorem dX4_worth_12 : decode cX4_worth 12 = .ok (.iconst 0, 1) := by decide +kernel
theorem dX4_worth_13 : decode cX4_worth 13 = .ok (.iaload, 1) := by decide +kernel
theorem dX4_worth_14 : decode cX4_worth 14 = .ok (.iconst 3, 1) := by decide +kernel
theorem dX4_worth_15 : decode cX4_worth 15 = .ok (.idiv, 1) := by decide +kernel
theorem dX4_worth_16 : decode cX4_worth 16 = .ok (.iadd, 1) := by decide +kernel
theorem dX4_worth_17 : decode cX4_worth 17 = .ok (.aload_n 0, 1) := by decide +kernel
theorem dX4_worth_18 : decode cX4_worth 18 = .ok (.getfield 34, 3) := by decide +kernel
theorem dX4_worth_21 : decode cX4_worth 21 = .ok (.iconst 5, 1) := by decide +kernel
theorem dX4_worth_22 : decode cX4_worth 22 = .ok (.iaload, 1) := by decide +kernel
theorem dX4_worth_23 : decode cX4_worth 23 = .ok (.iadd, 1) := by decide +kernel
theorem dX4_worth_24 : decode cX4_worth 24 = .ok (.aload_n 0, 1) := by decide +kernel
theorem dX4_worth_25 : decode cX4_worth 25 = .ok (.getfield 34, 3) := by decide +kernel
theorem dX4_worth_28 : decode cX4_worth 28 = .ok (.iconst 1, 1) := by decide +kernel
theorem dX4_worth_29 : decode cX4_worth 29 = .ok (.iaload, 1) := by decide +kernel
theorem dX4_worth_30 : decode cX4_worth 30 = .ok (.bipush 20, 2) := by decide +kernel
theorem dX4_worth_32 : decode cX4_worth 32 = .ok (.idiv, 1) := by decide +kernel
theorem dX4_worth_33 : decode cX4_worth 33 = .ok (.isub, 1) := by decide +kernel
theorem dX4_worth_34 : decode cX4_worth 34 = .ok (.invokestatic 79, 3) := by decide +kernel
theorem dX4_worth_37 : decode cX4_worth 37 = .ok (.ireturn, 1) := by decide +kernel
theorem dX4_worth_38 : decode cX4_worth 38 = .ok (.iconst 0, 1) := by decide +kernel
theorem dX4_worth_39 : decode cX4_worth 39 = .ok (.istore_n 1, 1) := by decide +kernel
theorem dX4_worth_40 : decode cX4_worth 40 = .ok (.iconst 0, 1) := by decide +kernel
theorem dX4_worth_41 : decode cX4_worth 41 = .ok (.istore_n 2, 1) := by decide +kernel
theorem dX4_worth_42 : decode cX4_worth 42 = .ok (.iconst 0, 1) := by decide +kernel
theorem dX4_worth_43 : decode cX4_worth 43 = .ok (.istore_n 3, 1) := by decide +kernel
theorem dX4_worth_44 : decode cX4_worth 44 = .ok (.iload_n 3, 1) := by decide +kernel
theorem dX4_worth_45 : decode cX4_worth 45 = .ok (.aload_n 0, 1) := by decide +kernel
theorem dX4_worth_46 : decode cX4_worth 46 = .ok (.getfield 22, 3) := by decide +kernel
theorem dX4_worth_49 : decode cX4_worth 49 = .ok (.if_icmp .ge 223, 3) := by decide +kernel
theorem dX4_worth_52 : decode cX4_worth 52 = .ok (.aload_n 0, 1) := by decide +kernel
theorem dX4_worth_53 : decode cX4_worth 53 = .ok (.getfield 19, 3) := by decide +kernel
theorem dX4_worth_56 : decode cX4_worth 56 = .ok (.iload_n 3, 1) := by decide +kernel
theorem dX4_worth_57 : decode cX4_worth 57 = .ok (.iaload, 1) := by decide +kernel
theorem dX4_worth_58 : decode cX4_worth 58 = .ok (.istore 4, 2) := by decide +kernel
theorem dX4_worth_60 : decode cX4_worth 60 = .ok (.iload_n 2, 1) := by decide +kernel
theorem dX4_worth_61 : decode cX4_worth 61 = .ok (.ifCond .eq 19, 3) := by decide +kernel
theorem dX4_worth_64 : decode cX4_worth 64 = .ok (.iload 4, 2) := by decide +kernel
theorem dX4_worth_66 : decode cX4_worth 66 = .ok (.bipush (-59), 2) := by decide +kernel
theorem dX4_worth_68 : decode cX4_worth 68 = .ok (.if_icmp .eq 7, 3) := by decide +kernel
theorem dX4_worth_71 : decode cX4_worth 71 = .ok (.iconst 1, 1) := by decide +kernel
theorem dX4_worth_72 : decode cX4_worth 72 = .ok (.goto 4, 3) := by decide +kernel
theorem dX4_worth_75 : decode cX4_worth 75 = .ok (.iconst 0, 1) := by decide +kernel
theorem dX4_worth_76 : decode cX4_worth 76 = .ok (.istore_n 2, 1) := by decide +kernel
theorem dX4_worth_77 : decode cX4_worth 77 = .ok (.goto 189, 3) := by decide +kernel
theorem dX4_worth_80 : decode cX4_worth 80 = .ok (.iload 4, 2) := by decide +kernel
theorem dX4_worth_82 : decode cX4_worth 82 = .ok (.ifCond .lt 50, 3) := by decide +kernel
theorem dX4_worth_85 : decode cX4_worth 85 = .ok (.iload_n 1, 1) := by decide +kernel
theorem dX4_worth_86 : decode cX4_worth 86 = .ok (.aload_n 0, 1) := by decide +kernel
theorem dX4_worth_87 : decode cX4_worth 87 = .ok (.getfield 37, 3) := by decide +kernel
theorem dX4_worth_90 : decode cX4_worth 90 = .ok (.arraylength, 1) := by decide +kernel
theorem dX4_worth_91 : decode cX4_worth 91 = .ok (.if_icmp .lt 5, 3) := by decide +kernel
theorem dX4_worth_94 : decode cX4_worth 94 = .ok (.iconst 0, 1) := by decide +kernel
theorem dX4_worth_95 : decode cX4_worth 95 = .ok (.ireturn, 1) := by decide +kernel
theorem dX4_worth_96 : decode cX4_worth 96 = .ok (.aload_n 0, 1) := by decide +kernel
theorem dX4_worth_97 : decode cX4_worth 97 = .ok (.getfield 37, 3) := by decide +kernel
theorem dX4_worth_100 : decode cX4_worth 100 = .ok (.iload_n 1, 1) := by decide +kernel
theorem dX4_worth_101 : decode cX4_worth 101 = .ok (.iload 4, 2) := by decide +kernel
theorem dX4_worth_103 : decode cX4_worth 103 = .ok (.sipush 10000, 3) := by decide +kernel
theorem dX4_worth_106 : decode cX4_worth 106 = .ok (.if_icmp .lt 17, 3) := by decide +kernel
theorem dX4_worth_109 : decode cX4_worth 109 = .ok (.aload_n 0, 1) := by decide +kernel
theorem dX4_worth_110 : decode cX4_worth 110 = .ok (.getfield 34, 3) := by decide +kernel
theorem dX4_worth_113 : decode cX4_worth 113 = .ok (.iload 4, 2) := by decide +kernel
theorem dX4_worth_115 : decode cX4_worth 115 = .ok (.sipush 10000, 3) := by decide +kernel
theorem dX4_worth_118 : decode cX4_worth 118 = .ok (.isub, 1) := by decide +kernel
theorem dX4_worth_119 : decode cX4_worth 119 = .ok (.iaload, 1) := by decide +kernel
theorem dX4_worth_120 : decode cX4_worth 120 = .ok (.goto 5, 3) := by decide +kernel
theorem dX4_worth_123 : decode cX4_worth 123 = .ok (.iload 4, 2) := by decide +kernel
theorem dX4_worth_125 : decode cX4_worth 125 = .ok (.iastore, 1) := by decide +kernel
theorem dX4_worth_126 : decode cX4_worth 126 = .ok (.iinc 1 1, 3) := by decide +kernel
theorem dX4_worth_129 : decode cX4_worth 129 = .ok (.goto 137, 3) := by decide +kernel
theorem dX4_worth_132 : decode cX4_worth 132 = .ok (.iload_n 1, 1) := by decide +kernel
theorem dX4_worth_133 : decode cX4_worth 133 = .ok (.iconst 1, 1) := by decide +kernel
theorem dX4_worth_134 : decode cX4_worth 134 = .ok (.if_icmp .ge 5, 3) := by decide +kernel
theorem dX4_worth_137 : decode cX4_worth 137 = .ok (.iconst 0, 1) := by decide +kernel
theorem dX4_worth_138 : decode cX4_worth 138 = .ok (.ireturn, 1) := by decide +kernel
theorem dX4_worth_139 : decode cX4_worth 139 = .ok (.aload_n 0, 1) := by decide +kernel
theorem dX4_worth_140 : decode cX4_worth 140 = .ok (.getfield 37, 3) := by decide +kernel
theorem dX4_worth_143 : decode cX4_worth 143 = .ok (.iload_n 1, 1) := by decide +kernel
theorem dX4_worth_144 : decode cX4_worth 144 = .ok (.iconst 1, 1) := by decide +kernel
theorem dX4_worth_145 : decode cX4_worth 145 = .ok (.isub, 1) := by decide +kernel
theorem dX4_worth_146 : decode cX4_worth 146 = .ok (.iaload, 1) := by decide +kernel
theorem dX4_worth_147 : decode cX4_worth 147 = .ok (.istore 5, 2) := by decide +kernel
theorem dX4_worth_149 : decode cX4_worth 149 = .ok (.iload 4, 2) := by decide +kernel
theorem dX4_worth_151 : decode cX4_worth 151 = .ok (.bipush (-59), 2) := by decide +kernel
theorem dX4_worth_153 : decode cX4_worth 153 = .ok (.if_icmp .ne 9, 3) := by decide +kernel
theorem dX4_worth_156 : decode cX4_worth 156 = .ok (.iload 5, 2) := by decide +kernel
theorem dX4_worth_158 : decode cX4_worth 158 = .ok (.invokestatic 79, 3) := by decide +kernel
theorem dX4_worth_161 : decode cX4_worth 161 = .ok (.ireturn, 1) := by decide +kernel
theorem dX4_worth_162 : decode cX4_worth 162 = .ok (.iload 4, 2) := by decide +kernel
theorem dX4_worth_164 : decode cX4_worth 164 = .ok (.bipush (-33), 2) := by decide +kernel
theorem dX4_worth_166 : decode cX4_worth 166 = .ok (.if_icmp .ne 24, 3) := by decide +kernel
theorem dX4_worth_169 : decode cX4_worth 169 = .ok (.aload_n 0, 1) := by decide +kernel
theorem dX4_worth_170 : decode cX4_worth 170 = .ok (.getfield 37, 3) := by decide +kernel
theorem dX4_worth_173 : decode cX4_worth 173 = .ok (.iload_n 1, 1) := by decide +kernel
theorem dX4_worth_174 : decode cX4_worth 174 = .ok (.iconst 1, 1) := by decide +kernel
theorem dX4_worth_175 : decode cX4_worth 175 = .ok (.isub, 1) := by decide +kernel
theorem dX4_worth_176 : decode cX4_worth 176 = .ok (.iload 5, 2) := by decide +kernel
theorem dX4_worth_178 : decode cX4_worth 178 = .ok (.ifCond .ne 7, 3) := by decide +kernel
theorem dX4_worth_181 : decode cX4_worth 181 = .ok (.iconst 1, 1) := by decide +kernel
theorem dX4_worth_182 : decode cX4_worth 182 = .ok (.goto 4, 3) := by decide +kernel
theorem dX4_worth_185 : decode cX4_worth 185 = .ok (.iconst 0, 1) := by decide +kernel
theorem dX4_worth_186 : decode cX4_worth 186 = .ok (.iastore, 1) := by decide +kernel
theorem dX4_worth_187 : decode cX4_worth 187 = .ok (.goto 79, 3) := by decide +kernel
theorem dX4_worth_190 : decode cX4_worth 190 = .ok (.iload 4, 2) := by decide +kernel
theorem dX4_worth_192 : decode cX4_worth 192 = .ok (.bipush (-126), 2) := by decide +kernel
theorem dX4_worth_194 : decode cX4_worth 194 = .ok (.if_icmp .ne 17, 3) := by decide +kernel
theorem dX4_worth_197 : decode cX4_worth 197 = .ok (.aload_n 0, 1) := by decide +kernel
theorem dX4_worth_198 : decode cX4_worth 198 = .ok (.getfield 37, 3) := by decide +kernel
theorem dX4_worth_201 : decode cX4_worth 201 = .ok (.iload_n 1, 1) := by decide +kernel
theorem dX4_worth_202 : decode cX4_worth 202 = .ok (.iconst 1, 1) := by decide +kernel
theorem dX4_worth_203 : decode cX4_worth 203 = .ok (.isub, 1) := by decide +kernel
theorem dX4_worth_204 : decode cX4_worth 204 = .ok (.iload 5, 2) := by decide +kernel
theorem dX4_worth_206 : decode cX4_worth 206 = .ok (.ineg, 1) := by decide +kernel
theorem dX4_worth_207 : decode cX4_worth 207 = .ok (.iastore, 1) := by decide +kernel
theorem dX4_worth_208 : decode cX4_worth 208 = .ok (.goto 58, 3) := by decide +kernel
theorem dX4_worth_211 : decode cX4_worth 211 = .ok (.iinc 1 (-1), 3) := by decide +kernel
theorem dX4_worth_214 : decode cX4_worth 214 = .ok (.iload 4, 2) := by decide +kernel
theorem dX4_worth_216 : decode cX4_worth 216 = .ok (.bipush (-63), 2) := by decide +kernel
theorem dX4_worth_218 : decode cX4_worth 218 = .ok (.if_icmp .ne 17, 3) := by decide +kernel
theorem dX4_worth_221 : decode cX4_worth 221 = .ok (.iload 5, 2) := by decide +kernel
theorem dX4_worth_223 : decode cX4_worth 223 = .ok (.ifCond .ne 7, 3) := by decide +kernel
theorem dX4_worth_226 : decode cX4_worth 226 = .ok (.iconst 1, 1) := by decide +kernel
theorem dX4_worth_227 : decode cX4_worth 227 = .ok (.goto 4, 3) := by decide +kernel
theorem dX4_worth_230 : decode cX4_worth 230 = .ok (.iconst 0, 1) := by decide +kernel
theorem dX4_worth_231 : decode cX4_worth 231 = .ok (.istore_n 2, 1) := by decide +kernel
theorem dX4_worth_232 : decode cX4_worth 232 = .ok (.goto 34, 3) := by decide +kernel
theorem dX4_worth_235 : decode cX4_worth 235 = .ok (.iload_n 1, 1) := by decide +kernel
theorem dX4_worth_236 : decode cX4_worth 236 = .ok (.iconst 1, 1) := by decide +kernel
theorem dX4_worth_237 : decode cX4_worth 237 = .ok (.if_icmp .ge 5, 3) := by decide +kernel
theorem dX4_worth_240 : decode cX4_worth 240 = .ok (.iconst 0, 1) := by decide +kernel
theorem dX4_worth_241 : decode cX4_worth 241 = .ok (.ireturn, 1) := by decide +kernel
theorem dX4_worth_242 : decode cX4_worth 242 = .ok (.aload_n 0, 1) := by decide +kernel
theorem dX4_worth_243 : decode cX4_worth 243 = .ok (.getfield 37, 3) := by decide +kernel
theorem dX4_worth_246 : decode cX4_worth 246 = .ok (.iload_n 1, 1) := by decide +kernel
theorem dX4_worth_247 : decode cX4_worth 247 = .ok (.iconst 1, 1) := by decide +kernel
theorem dX4_worth_248 : decode cX4_worth 248 = .ok (.isub, 1) := by decide +kernel
theorem dX4_worth_249 : decode cX4_worth 249 = .ok (.aload_n 0, 1) := by decide +kernel
theorem dX4_worth_250 : decode cX4_worth 250 = .ok (.getfield 37, 3) := by decide +kernel
theorem dX4_worth_253 : decode cX4_worth 253 = .ok (.iload_n 1, 1) := by decide +kernel
theorem dX4_worth_254 : decode cX4_worth 254 = .ok (.iconst 1, 1) := by decide +kernel
theorem dX4_worth_255 : decode cX4_worth 255 = .ok (.isub, 1) := by decide +kernel
theorem dX4_worth_256 : decode cX4_worth 256 = .ok (.iaload, 1) := by decide +kernel
theorem dX4_worth_257 : decode cX4_worth 257 = .ok (.iload 4, 2) := by decide +kernel
theorem dX4_worth_259 : decode cX4_worth 259 = .ok (.ineg, 1) := by decide +kernel
theorem dX4_worth_260 : decode cX4_worth 260 = .ok (.iload 5, 2) := by decide +kernel
theorem dX4_worth_262 : decode cX4_worth 262 = .ok (.invokestatic 82, 3) := by decide +kernel
theorem dX4_worth_265 : decode cX4_worth 265 = .ok (.iastore, 1) := by decide +kernel
theorem dX4_worth_266 : decode cX4_worth 266 = .ok (.iinc 3 1, 3) := by decide +kernel
theorem dX4_worth_269 : decode cX4_worth 269 = .ok (.goto (-225), 3) := by decide +kernel
theorem dX4_worth_272 : decode cX4_worth 272 = .ok (.iconst 0, 1) := by decide +kernel
theorem dX4_worth_273 : decode cX4_worth 273 = .ok (.ireturn, 1) := by decide +kernel
theorem dX4_joined_0 : decode cX4_joined 0 = .ok (.iload_n 1, 1) := by decide +kernel
theorem dX4_joined_1 : decode cX4_joined 1 = .ok (.lookupswitch 168 #[(38, 97), (42, 152), (43, 144), (45, 148), (47, 156), (60, 111), (61, 122), (62, 133), (124, 83)], 83) := by decide +kernel
theorem dX4_joined_84 : decode cX4_joined 84 = .ok (.iload_n 0, 1) := by decide +kernel
theorem dX4_joined_85 : decode cX4_joined 85 = .ok (.ifCond .ne 7, 3) := by decide +kernel
theorem dX4_joined_88 : decode cX4_joined 88 = .ok (.iload_n 2, 1) := by decide +kernel
theorem dX4_joined_89 : decode cX4_joined 89 = .ok (.ifCond .eq 7, 3) := by decide +kernel
theorem dX4_joined_92 : decode cX4_joined 92 = .ok (.iconst 1, 1) := by decide +kernel
theorem dX4_joined_93 : decode cX4_joined 93 = .ok (.goto 4, 3) := by decide +kernel
theorem dX4_joined_96 : decode cX4_joined 96 = .ok (.iconst 0, 1) := by decide +kernel
theorem dX4_joined_97 : decode cX4_joined 97 = .ok (.ireturn, 1) := by decide +kernel
theorem dX4_joined_98 : decode cX4_joined 98 = .ok (.iload_n 0, 1) := by decide +kernel
theorem dX4_joined_99 : decode cX4_joined 99 = .ok (.ifCond .eq 11, 3) := by decide +kernel
theorem dX4_joined_102 : decode cX4_joined 102 = .ok (.iload_n 2, 1) := by decide +kernel
theorem dX4_joined_103 : decode cX4_joined 103 = .ok (.ifCond .eq 7, 3) := by decide +kernel
theorem dX4_joined_106 : decode cX4_joined 106 = .ok (.iconst 1, 1) := by decide +kernel
theorem dX4_joined_107 : decode cX4_joined 107 = .ok (.goto 4, 3) := by decide +kernel
theorem dX4_joined_110 : decode cX4_joined 110 = .ok (.iconst 0, 1) := by decide +kernel
theorem dX4_joined_111 : decode cX4_joined 111 = .ok (.ireturn, 1) := by decide +kernel
theorem dX4_joined_112 : decode cX4_joined 112 = .ok (.iload_n 0, 1) := by decide +kernel
theorem dX4_joined_113 : decode cX4_joined 113 = .ok (.iload_n 2, 1) := by decide +kernel
theorem dX4_joined_114 : decode cX4_joined 114 = .ok (.if_icmp .ge 7, 3) := by decide +kernel
theorem dX4_joined_117 : decode cX4_joined 117 = .ok (.iconst 1, 1) := by decide +kernel
theorem dX4_joined_118 : decode cX4_joined 118 = .ok (.goto 4, 3) := by decide +kernel
theorem dX4_joined_121 : decode cX4_joined 121 = .ok (.iconst 0, 1) := by decide +kernel
theorem dX4_joined_122 : decode cX4_joined 122 = .ok (.ireturn, 1) := by decide +kernel
theorem dX4_joined_123 : decode cX4_joined 123 = .ok (.iload_n 0, 1) := by decide +kernel
theorem dX4_joined_124 : decode cX4_joined 124 = .ok (.iload_n 2, 1) := by decide +kernel
theorem dX4_joined_125 : decode cX4_joined 125 = .ok (.if_icmp .ne 7, 3) := by decide +kernel
theorem dX4_joined_128 : decode cX4_joined 128 = .ok (.iconst 1, 1) := by decide +kernel
theorem dX4_joined_129 : decode cX4_joined 129 = .ok (.goto 4, 3) := by decide +kernel
theorem dX4_joined_132 : decode cX4_joined 132 = .ok (.iconst 0, 1) := by decide +kernel
theorem dX4_joined_133 : decode cX4_joined 133 = .ok (.ireturn, 1) := by decide +kernel
theorem dX4_joined_134 : decode cX4_joined 134 = .ok (.iload_n 0, 1) := by decide +kernel
theorem dX4_joined_135 : decode cX4_joined 135 = .ok (.iload_n 2, 1) := by decide +kernel
theorem dX4_joined_136 : decode cX4_joined 136 = .ok (.if_icmp .le 7, 3) := by decide +kernel
theorem dX4_joined_139 : decode cX4_joined 139 = .ok (.iconst 1, 1) := by decide +kernel
theorem dX4_joined_140 : decode cX4_joined 140 = .ok (.goto 4, 3) := by decide +kernel
theorem dX4_joined_143 : decode cX4_joined 143 = .ok (.iconst 0, 1) := by decide +kernel
theorem dX4_joined_144 : decode cX4_joined 144 = .ok (.ireturn, 1) := by decide +kernel
theorem dX4_joined_145 : decode cX4_joined 145 = .ok (.iload_n 0, 1) := by decide +kernel
theorem dX4_joined_146 : decode cX4_joined 146 = .ok (.iload_n 2, 1) := by decide +kernel
theorem dX4_joined_147 : decode cX4_joined 147 = .ok (.iadd, 1) := by decide +kernel
theorem dX4_joined_148 : decode cX4_joined 148 = .ok (.ireturn, 1) := by decide +kernel
theorem dX4_joined_149 : decode cX4_joined 149 = .ok (.iload_n 0, 1) := by decide +kernel
theorem dX4_joined_150 : decode cX4_joined 150 = .ok (.iload_n 2, 1) := by decide +kernel
theorem dX4_joined_151 : decode cX4_joined 151 = .ok (.isub, 1) := by decide +kernel
theorem dX4_joined_152 : decode cX4_joined 152 = .ok (.ireturn, 1) := by decide +kernel
theorem dX4_joined_153 : decode cX4_joined 153 = .ok (.iload_n 0, 1) := by decide +kernel
theorem dX4_joined_154 : decode cX4_joined 154 = .ok (.iload_n 2, 1) := by decide +kernel
theorem dX4_joined_155 : decode cX4_joined 155 = .ok (.imul, 1) := by decide +kernel
theorem dX4_joined_156 : decode cX4_joined 156 = .ok (.ireturn, 1) := by decide +kernel
theorem dX4_joined_157 : decode cX4_joined 157 = .ok (.iload_n 2, 1) := by decide +kernel
theorem dX4_joined_158 : decode cX4_joined 158 = .ok (.ifCond .ne 7, 3) := by decide +kernel
theorem dX4_joined_161 : decode cX4_joined 161 = .ok (.iconst 0, 1) := by decide +kernel
theorem dX4_joined_162 : decode cX4_joined 162 = .ok (.goto 6, 3) := by decide +kernel
theorem dX4_joined_165 : decode cX4_joined 165 = .ok (.iload_n 0, 1) := by decide +kernel
theorem dX4_joined_166 : decode cX4_joined 166 = .ok (.iload_n 2, 1) := by decide +kernel
theorem dX4_joined_167 : decode cX4_joined 167 = .ok (.idiv, 1) := by decide +kernel
theorem dX4_joined_168 : decode cX4_joined 168 = .ok (.ireturn, 1) := by decide +kernel
theorem dX4_joined_169 : decode cX4_joined 169 = .ok (.iload_n 2, 1) := by decide +kernel
theorem dX4_joined_170 : decode cX4_joined 170 = .ok (.ifCond .ne 7, 3) := by decide +kernel
theorem dX4_joined_173 : decode cX4_joined 173 = .ok (.iconst 0, 1) := by decide +kernel
theorem dX4_joined_174 : decode cX4_joined 174 = .ok (.goto 6, 3) := by decide +kernel
theorem dX4_joined_177 : decode cX4_joined 177 = .ok (.iload_n 0, 1) := by decide +kernel
theorem dX4_joined_178 : decode cX4_joined 178 = .ok (.iload_n 2, 1) := by decide +kernel
theorem dX4_joined_179 : decode cX4_joined 179 = .ok (.irem, 1) := by decide +kernel
theorem dX4_joined_180 : decode cX4_joined 180 = .ok (.ireturn, 1) := by decide +kernel
theorem dX5_init_0 : decode cX5_init 0 = .ok (.aload_n 0, 1) := by decide +kernel
theorem dX5_init_1 : decode cX5_init 1 = .ok (.invokespecial 3, 3) := by decide +kernel
theorem dX5_init_4 : decode cX5_init 4 = .ok (.aload_n 0, 1) := by decide +kernel
theorem dX5_init_5 : decode cX5_init 5 = .ok (.bipush 12, 2) := by decide +kernel
theorem dX5_init_7 : decode cX5_init 7 = .ok (.newarray .int, 2) := by decide +kernel
theorem dX5_init_9 : decode cX5_init 9 = .ok (.putfield 9, 3) := by decide +kernel
theorem dX5_init_12 : decode cX5_init 12 = .ok (.aload_n 0, 1) := by decide +kernel
theorem dX5_init_13 : decode cX5_init 13 = .ok (.bipush 12, 2) := by decide +kernel
theorem dX5_init_15 : decode cX5_init 15 = .ok (.newarray .int, 2) := by decide +kernel
theorem dX5_init_17 : decode cX5_init 17 = .ok (.putfield 15, 3) := by decide +kernel
theorem dX5_init_20 : decode cX5_init 20 = .ok (.aload_n 0, 1) := by decide +kernel
theorem dX5_init_21 : decode cX5_init 21 = .ok (.bipush 6, 2) := by decide +kernel
theorem dX5_init_23 : decode cX5_init 23 = .ok (.newarray .int, 2) := by decide +kernel
theorem dX5_init_25 : decode cX5_init 25 = .ok (.putfield 18, 3) := by decide +kernel
theorem dX5_init_28 : decode cX5_init 28 = .ok (.aload_n 0, 1) := by decide +kernel
theorem dX5_init_29 : decode cX5_init 29 = .ok (.iconst 0, 1) := by decide +kernel
theorem dX5_init_30 : decode cX5_init 30 = .ok (.putfield 21, 3) := by decide +kernel
theorem dX5_init_33 : decode cX5_init 33 = .ok (.aload_n 0, 1) := by decide +kernel
theorem dX5_init_34 : decode cX5_init 34 = .ok (.iconst 0, 1) := by decide +kernel
theorem dX5_init_35 : decode cX5_init 35 = .ok (.putfield 25, 3) := by decide +kernel
theorem dX5_init_38 : decode cX5_init 38 = .ok (.return_, 1) := by decide +kernel
theorem dX5_become_0 : decode cX5_become 0 = .ok (.aload_n 0, 1) := by decide +kernel
theorem dX5_become_1 : decode cX5_become 1 = .ok (.aload_n 1, 1) := by decide +kernel
theorem dX5_become_2 : decode cX5_become 2 = .ok (.bipush 12, 2) := by decide +kernel
theorem dX5_become_4 : decode cX5_become 4 = .ok (.invokevirtual 28, 3) := by decide +kernel
theorem dX5_become_7 : decode cX5_become 7 = .ok (.return_, 1) := by decide +kernel
theorem dX5_becomeUpTo_0 : decode cX5_becomeUpTo 0 = .ok (.iconst 1, 1) := by decide +kernel
theorem dX5_becomeUpTo_1 : decode cX5_becomeUpTo 1 = .ok (.iload_n 2, 1) := by decide +kernel
theorem dX5_becomeUpTo_2 : decode cX5_becomeUpTo 2 = .ok (.ishl, 1) := by decide +kernel
theorem dX5_becomeUpTo_3 : decode cX5_becomeUpTo 3 = .ok (.iconst 1, 1) := by decide +kernel
theorem dX5_becomeUpTo_4 : decode cX5_becomeUpTo 4 = .ok (.isub, 1) := by decide +kernel
theorem dX5_becomeUpTo_5 : decode cX5_becomeUpTo 5 = .ok (.istore_n 3, 1) := by decide +kernel
theorem dX5_becomeUpTo_6 : decode cX5_becomeUpTo 6 = .ok (.aload_n 1, 1) := by decide +kernel
theorem dX5_becomeUpTo_7 : decode cX5_becomeUpTo 7 = .ok (.getfield 9, 3) := by decide +kernel
theorem dX5_becomeUpTo_10 : decode cX5_becomeUpTo 10 = .ok (.iconst 0, 1) := by decide +kernel
theorem dX5_becomeUpTo_11 : decode cX5_becomeUpTo 11 = .ok (.aload_n 0, 1) := by decide +kernel
theorem dX5_becomeUpTo_12 : decode cX5_becomeUpTo 12 = .ok (.getfield 9, 3) := by decide +kernel
theorem dX5_becomeUpTo_15 : decode cX5_becomeUpTo 15 = .ok (.iconst 0, 1) := by decide +kernel
theorem dX5_becomeUpTo_16 : decode cX5_becomeUpTo 16 = .ok (.bipush 12, 2) := by decide +kernel
theorem dX5_becomeUpTo_18 : decode cX5_becomeUpTo 18 = .ok (.invokestatic 32, 3) := by decide +kernel
theorem dX5_becomeUpTo_21 : decode cX5_becomeUpTo 21 = .ok (.aload_n 1, 1) := by decide +kernel
theorem dX5_becomeUpTo_22 : decode cX5_becomeUpTo 22 = .ok (.getfield 15, 3) := by decide +kernel
theorem dX5_becomeUpTo_25 : decode cX5_becomeUpTo 25 = .ok (.iconst 0, 1) := by decide +kernel
theorem dX5_becomeUpTo_26 : decode cX5_becomeUpTo 26 = .ok (.aload_n 0, 1) := by decide +kernel
theorem dX5_becomeUpTo_27 : decode cX5_becomeUpTo 27 = .ok (.getfield 15, 3) := by decide +kernel
theorem dX5_becomeUpTo_30 : decode cX5_becomeUpTo 30 = .ok (.iconst 0, 1) := by decide +kernel
theorem dX5_becomeUpTo_31 : decode cX5_becomeUpTo 31 = .ok (.iload_n 2, 1) := by decide +kernel
theorem dX5_becomeUpTo_32 : decode cX5_becomeUpTo 32 = .ok (.invokestatic 32, 3) := by decide +kernel
theorem dX5_becomeUpTo_35 : decode cX5_becomeUpTo 35 = .ok (.aload_n 1, 1) := by decide +kernel
theorem dX5_becomeUpTo_36 : decode cX5_becomeUpTo 36 = .ok (.getfield 18, 3) := by decide +kernel
theorem dX5_becomeUpTo_39 : decode cX5_becomeUpTo 39 = .ok (.iconst 0, 1) := by decide +kernel
theorem dX5_becomeUpTo_40 : decode cX5_becomeUpTo 40 = .ok (.aload_n 0, 1) := by decide +kernel
theorem dX5_becomeUpTo_41 : decode cX5_becomeUpTo 41 = .ok (.getfield 18, 3) := by decide +kernel
theorem dX5_becomeUpTo_44 : decode cX5_becomeUpTo 44 = .ok (.iconst 0, 1) := by decide +kernel
theorem dX5_becomeUpTo_45 : decode cX5_becomeUpTo 45 = .ok (.aload_n 0, 1) := by decide +kernel
theorem dX5_becomeUpTo_46 : decode cX5_becomeUpTo 46 = .ok (.getfield 18, 3) := by decide +kernel
theorem dX5_becomeUpTo_49 : decode cX5_becomeUpTo 49 = .ok (.arraylength, 1) := by decide +kernel
theorem dX5_becomeUpTo_50 : decode cX5_becomeUpTo 50 = .ok (.invokestatic 32, 3) := by decide +kernel
theorem dX5_becomeUpTo_53 : decode cX5_becomeUpTo 53 = .ok (.aload_n 0, 1) := by decide +kernel
theorem dX5_becomeUpTo_54 : decode cX5_becomeUpTo 54 = .ok (.aload_n 1, 1) := by decide +kernel
theorem dX5_becomeUpTo_55 : decode cX5_becomeUpTo 55 = .ok (.getfield 21, 3) := by decide +kernel
theorem dX5_becomeUpTo_58 : decode cX5_becomeUpTo 58 = .ok (.iload_n 3, 1) := by decide +kernel
theorem dX5_becomeUpTo_59 : decode cX5_becomeUpTo 59 = .ok (.iand, 1) := by decide +kernel
theorem dX5_becomeUpTo_60 : decode cX5_becomeUpTo 60 = .ok (.aload_n 0, 1) := by decide +kernel
theorem dX5_becomeUpTo_61 : decode cX5_becomeUpTo 61 = .ok (.getfield 21, 3) := by decide +kernel
theorem dX5_becomeUpTo_64 : decode cX5_becomeUpTo 64 = .ok (.iload_n 3, 1) := by decide +kernel
theorem dX5_becomeUpTo_65 : decode cX5_becomeUpTo 65 = .ok (.iconst (-1), 1) := by decide +kernel
theorem dX5_becomeUpTo_66 : decode cX5_becomeUpTo 66 = .ok (.ixor, 1) := by decide +kernel
theorem dX5_becomeUpTo_67 : decode cX5_becomeUpTo 67 = .ok (.iand, 1) := by decide +kernel
theorem dX5_becomeUpTo_68 : decode cX5_becomeUpTo 68 = .ok (.ior, 1) := by decide +kernel
theorem dX5_becomeUpTo_69 : decode cX5_becomeUpTo 69 = .ok (.putfield 21, 3) := by decide +kernel
theorem dX5_becomeUpTo_72 : decode cX5_becomeUpTo 72 = .ok (.aload_n 0, 1) := by decide +kernel
theorem dX5_becomeUpTo_73 : decode cX5_becomeUpTo 73 = .ok (.aload_n 1, 1) := by decide +kernel
theorem dX5_becomeUpTo_74 : decode cX5_becomeUpTo 74 = .ok (.getfield 25, 3) := by decide +kernel
theorem dX5_becomeUpTo_77 : decode cX5_becomeUpTo 77 = .ok (.putfield 25, 3) := by decide +kernel
theorem dX5_becomeUpTo_80 : decode cX5_becomeUpTo 80 = .ok (.return_, 1) := by decide +kernel
theorem dX5_isForgiven_0 : decode cX5_isForgiven 0 = .ok (.aload_n 0, 1) := by decide +kernel
theorem dX5_isForgiven_1 : decode cX5_isForgiven 1 = .ok (.getfield 21, 3) := by decide +kernel
theorem dX5_isForgiven_4 : decode cX5_isForgiven 4 = .ok (.iload_n 1, 1) := by decide +kernel
theorem dX5_isForgiven_5 : decode cX5_isForgiven 5 = .ok (.ishr, 1) := by decide +kernel
theorem dX5_isForgiven_6 : decode cX5_isForgiven 6 = .ok (.iconst 1, 1) := by decide +kernel
theorem dX5_isForgiven_7 : decode cX5_isForgiven 7 = .ok (.iand, 1) := by decide +kernel
theorem dX5_isForgiven_8 : decode cX5_isForgiven 8 = .ok (.ifCond .eq 7, 3) := by decide +kernel
theorem dX5_isForgiven_11 : decode cX5_isForgiven 11 = .ok (.iconst 1, 1) := by decide +kernel
theorem dX5_isForgiven_12 : decode cX5_isForgiven 12 = .ok (.goto 4, 3) := by decide +kernel
theorem dX5_isForgiven_15 : decode cX5_isForgiven 15 = .ok (.iconst 0, 1) := by decide +kernel
theorem dX5_isForgiven_16 : decode cX5_isForgiven 16 = .ok (.ireturn, 1) := by decide +kernel
theorem dX5_setForgiven_0 : decode cX5_setForgiven 0 = .ok (.aload_n 0, 1) := by decide +kernel
theorem dX5_setForgiven_1 : decode cX5_setForgiven 1 = .ok (.iload_n 2, 1) := by decide +kernel
theorem dX5_setForgiven_2 : decode cX5_setForgiven 2 = .ok (.ifCond .eq 14, 3) := by decide +kernel
theorem dX5_setForgiven_5 : decode cX5_setForgiven 5 = .ok (.aload_n 0, 1) := by decide +kernel
theorem dX5_setForgiven_6 : decode cX5_setForgiven 6 = .ok (.getfield 21, 3) := by decide +kernel
theorem dX5_setForgiven_9 : decode cX5_setForgiven 9 = .ok (.iconst 1, 1) := by decide +kernel
theorem dX5_setForgiven_10 : decode cX5_setForgiven 10 = .ok (.iload_n 1, 1) := by decide +kernel
theorem dX5_setForgiven_11 : decode cX5_setForgiven 11 = .ok (.ishl, 1) := by decide +kernel
theorem dX5_setForgiven_12 : decode cX5_setForgiven 12 = .ok (.ior, 1) := by decide +kernel
theorem dX5_setForgiven_13 : decode cX5_setForgiven 13 = .ok (.goto 13, 3) := by decide +kernel
theorem dX5_setForgiven_16 : decode cX5_setForgiven 16 = .ok (.aload_n 0, 1) := by decide +kernel
theorem dX5_setForgiven_17 : decode cX5_setForgiven 17 = .ok (.getfield 21, 3) := by decide +kernel
theorem dX5_setForgiven_20 : decode cX5_setForgiven 20 = .ok (.iconst 1, 1) := by decide +kernel
theorem dX5_setForgiven_21 : decode cX5_setForgiven 21 = .ok (.iload_n 1, 1) := by decide +kernel
theorem dX5_setForgiven_22 : decode cX5_setForgiven 22 = .ok (.ishl, 1) := by decide +kernel
theorem dX5_setForgiven_23 : decode cX5_setForgiven 23 = .ok (.iconst (-1), 1) := by decide +kernel
theorem dX5_setForgiven_24 : decode cX5_setForgiven 24 = .ok (.ixor, 1) := by decide +kernel
theorem dX5_setForgiven_25 : decode cX5_setForgiven 25 = .ok (.iand, 1) := by decide +kernel
theorem dX5_setForgiven_26 : decode cX5_setForgiven 26 = .ok (.putfield 21, 3) := by decide +kernel
theorem dX5_setForgiven_29 : decode cX5_setForgiven 29 = .ok (.return_, 1) := by decide +kernel
theorem dX5_doAgain_0 : decode cX5_doAgain 0 = .ok (.aload_n 0, 1) := by decide +kernel
theorem dX5_doAgain_1 : decode cX5_doAgain 1 = .ok (.iload_n 1, 1) := by decide +kernel
theorem dX5_doAgain_2 : decode cX5_doAgain 2 = .ok (.iconst 0, 1) := by decide +kernel
theorem dX5_doAgain_3 : decode cX5_doAgain 3 = .ok (.invokevirtual 38, 3) := by decide +kernel
theorem dX5_doAgain_6 : decode cX5_doAgain 6 = .ok (.aload_n 0, 1) := by decide +kernel
theorem dX5_doAgain_7 : decode cX5_doAgain 7 = .ok (.getfield 15, 3) := by decide +kernel
theorem dX5_doAgain_10 : decode cX5_doAgain 10 = .ok (.iload_n 1, 1) := by decide +kernel
theorem dX5_doAgain_11 : decode cX5_doAgain 11 = .ok (.aload_n 0, 1) := by decide +kernel
theorem dX5_doAgain_12 : decode cX5_doAgain 12 = .ok (.getfield 25, 3) := by decide +kernel
theorem dX5_doAgain_15 : decode cX5_doAgain 15 = .ok (.iastore, 1) := by decide +kernel
theorem dX5_doAgain_16 : decode cX5_doAgain 16 = .ok (.return_, 1) := by decide +kernel
theorem dX5_pass_0 : decode cX5_pass 0 = .ok (.aload_n 0, 1) := by decide +kernel
theorem dX5_pass_1 : decode cX5_pass 1 = .ok (.bipush 99, 2) := by decide +kernel
theorem dX5_pass_3 : decode cX5_pass 3 = .ok (.aload_n 0, 1) := by decide +kernel
theorem dX5_pass_4 : decode cX5_pass 4 = .ok (.getfield 25, 3) := by decide +kernel
theorem dX5_pass_7 : decode cX5_pass 7 = .ok (.iload_n 1, 1) := by decide +kernel
theorem dX5_pass_8 : decode cX5_pass 8 = .ok (.iadd, 1) := by decide +kernel
theorem dX5_pass_9 : decode cX5_pass 9 = .ok (.invokestatic 42, 3) := by decide +kernel
theorem dX5_pass_12 : decode cX5_pass 12 = .ok (.putfield 25, 3) := by decide +kernel
theorem dX5_pass_15 : decode cX5_pass 15 = .ok (.return_, 1) := by decide +kernel
theorem dX5_total_0 : decode cX5_total 0 = .ok (.iconst 0, 1) := by decide +kernel
theorem dX5_total_1 : decode cX5_total 1 = .ok (.istore_n 1, 1) := by decide +kernel
theorem dX5_total_2 : decode cX5_total 2 = .ok (.iconst 0, 1) := by decide +kernel
theorem dX5_total_3 : decode cX5_total 3 = .ok (.istore_n 2, 1) := by decide +kernel
theorem dX5_total_4 : decode cX5_total 4 = .ok (.iload_n 2, 1) := by decide +kernel
theorem dX5_total_5 : decode cX5_total 5 = .ok (.bipush 12, 2) := by decide +kernel
theorem dX5_total_7 : decode cX5_total 7 = .ok (.if_icmp .ge 18, 3) := by decide +kernel
theorem dX5_total_10 : decode cX5_total 10 = .ok (.iload_n 1, 1) := by decide +kernel
theorem dX5_total_11 : decode cX5_total 11 = .ok (.aload_n 0, 1) := by decide +kernel
theorem dX5_total_12 : decode cX5_total 12 = .ok (.getfield 9, 3) := by decide +kernel
theorem dX5_total_15 : decode cX5_total 15 = .ok (.iload_n 2, 1) := by decide +kernel
theorem dX5_total_16 : decode cX5_total 16 = .ok (.iaload, 1) := by decide +kernel
theorem dX5_total_17 : decode cX5_total 17 = .ok (.iadd, 1) := by decide +kernel
theorem dX5_total_18 : decode cX5_total 18 = .ok (.istore_n 1, 1) := by decide +kernel
theorem dX5_total_19 : decode cX5_total 19 = .ok (.iinc 2 1, 3) := by decide +kernel
theorem dX5_total_22 : decode cX5_total 22 = .ok (.goto (-18), 3) := by decide +kernel
theorem dX5_total_25 : decode cX5_total 25 = .ok (.iload_n 1, 1) := by decide +kernel
theorem dX5_total_26 : decode cX5_total 26 = .ok (.ireturn, 1) := by decide +kernel
theorem dX5_alike_0 : decode cX5_alike 0 = .ok (.iconst 0, 1) := by decide +kernel
theorem dX5_alike_1 : decode cX5_alike 1 = .ok (.istore_n 1, 1) := by decide +kernel
theorem dX5_alike_2 : decode cX5_alike 2 = .ok (.iload_n 1, 1) := by decide +kernel
theorem dX5_alike_3 : decode cX5_alike 3 = .ok (.bipush 12, 2) := by decide +kernel
theorem dX5_alike_5 : decode cX5_alike 5 = .ok (.if_icmp .ge 59, 3) := by decide +kernel
theorem dX5_alike_8 : decode cX5_alike 8 = .ok (.aload_n 0, 1) := by decide +kernel
theorem dX5_alike_9 : decode cX5_alike 9 = .ok (.getfield 9, 3) := by decide +kernel
theorem dX5_alike_12 : decode cX5_alike 12 = .ok (.iload_n 1, 1) := by decide +kernel
theorem dX5_alike_13 : decode cX5_alike 13 = .ok (.iaload, 1) := by decide +kernel
theorem dX5_alike_14 : decode cX5_alike 14 = .ok (.ifCond .ne 6, 3) := by decide +kernel
theorem dX5_alike_17 : decode cX5_alike 17 = .ok (.goto 41, 3) := by decide +kernel
theorem dX5_alike_20 : decode cX5_alike 20 = .ok (.iload_n 1, 1) := by decide +kernel
theorem dX5_alike_21 : decode cX5_alike 21 = .ok (.iconst 1, 1) := by decide +kernel
theorem dX5_alike_22 : decode cX5_alike 22 = .ok (.iadd, 1) := by decide +kernel
theorem dX5_alike_23 : decode cX5_alike 23 = .ok (.istore_n 2, 1) := by decide +kernel
theorem dX5_alike_24 : decode cX5_alike 24 = .ok (.iload_n 2, 1) := by decide +kernel
theorem dX5_alike_25 : decode cX5_alike 25 = .ok (.bipush 12, 2) := by decide +kernel
theorem dX5_alike_27 : decode cX5_alike 27 = .ok (.if_icmp .ge 31, 3) := by decide +kernel
theorem dX5_alike_30 : decode cX5_alike 30 = .ok (.aload_n 0, 1) := by decide +kernel
theorem dX5_alike_31 : decode cX5_alike 31 = .ok (.getfield 9, 3) := by decide +kernel
theorem dX5_alike_34 : decode cX5_alike 34 = .ok (.iload_n 1, 1) := by decide +kernel
theorem dX5_alike_35 : decode cX5_alike 35 = .ok (.iaload, 1) := by decide +kernel
theorem dX5_alike_36 : decode cX5_alike 36 = .ok (.aload_n 0, 1) := by decide +kernel
theorem dX5_alike_37 : decode cX5_alike 37 = .ok (.getfield 9, 3) := by decide +kernel
theorem dX5_alike_40 : decode cX5_alike 40 = .ok (.iload_n 2, 1) := by decide +kernel
theorem dX5_alike_41 : decode cX5_alike 41 = .ok (.iaload, 1) := by decide +kernel
theorem dX5_alike_42 : decode cX5_alike 42 = .ok (.if_icmp .ne 10, 3) := by decide +kernel
theorem dX5_alike_45 : decode cX5_alike 45 = .ok (.bipush 12, 2) := by decide +kernel
theorem dX5_alike_47 : decode cX5_alike 47 = .ok (.iload_n 1, 1) := by decide +kernel
theorem dX5_alike_48 : decode cX5_alike 48 = .ok (.imul, 1) := by decide +kernel
theorem dX5_alike_49 : decode cX5_alike 49 = .ok (.iload_n 2, 1) := by decide +kernel
theorem dX5_alike_50 : decode cX5_alike 50 = .ok (.iadd, 1) := by decide +kernel
theorem dX5_alike_51 : decode cX5_alike 51 = .ok (.ireturn, 1) := by decide +kernel
theorem dX5_alike_52 : decode cX5_alike 52 = .ok (.iinc 2 1, 3) := by decide +kernel
theorem dX5_alike_55 : decode cX5_alike 55 = .ok (.goto (-31), 3) := by decide +kernel
theorem dX5_alike_58 : decode cX5_alike 58 = .ok (.iinc 1 1, 3) := by decide +kernel
theorem dX5_alike_61 : decode cX5_alike 61 = .ok (.goto (-59), 3) := by decide +kernel
theorem dX5_alike_64 : decode cX5_alike 64 = .ok (.bipush (-2), 2) := by decide +kernel
theorem dX5_alike_66 : decode cX5_alike 66 = .ok (.ireturn, 1) := by decide +kernel
theorem dX5_firstBreak_0 : decode cX5_firstBreak 0 = .ok (.iconst 1, 1) := by decide +kernel
theorem dX5_firstBreak_1 : decode cX5_firstBreak 1 = .ok (.istore_n 1, 1) := by decide +kernel
theorem dX5_firstBreak_2 : decode cX5_firstBreak 2 = .ok (.iload_n 1, 1) := by decide +kernel
theorem dX5_firstBreak_3 : decode cX5_firstBreak 3 = .ok (.bipush 12, 2) := by decide +kernel
theorem dX5_firstBreak_5 : decode cX5_firstBreak 5 = .ok (.if_icmp .ge 28, 3) := by decide +kernel
theorem dX5_firstBreak_8 : decode cX5_firstBreak 8 = .ok (.aload_n 0, 1) := by decide +kernel
theorem dX5_firstBreak_9 : decode cX5_firstBreak 9 = .ok (.getfield 9, 3) := by decide +kernel
theorem dX5_firstBreak_12 : decode cX5_firstBreak 12 = .ok (.iload_n 1, 1) := by decide +kernel
theorem dX5_firstBreak_13 : decode cX5_firstBreak 13 = .ok (.iaload, 1) := by decide +kernel
theorem dX5_firstBreak_14 : decode cX5_firstBreak 14 = .ok (.aload_n 0, 1) := by decide +kernel
theorem dX5_firstBreak_15 : decode cX5_firstBreak 15 = .ok (.getfield 9, 3) := by decide +kernel
theorem dX5_firstBreak_18 : decode cX5_firstBreak 18 = .ok (.iload_n 1, 1) := by decide +kernel
theorem dX5_firstBreak_19 : decode cX5_firstBreak 19 = .ok (.iconst 1, 1) := by decide +kernel
theorem dX5_firstBreak_20 : decode cX5_firstBreak 20 = .ok (.isub, 1) := by decide +kernel
theorem dX5_firstBreak_21 : decode cX5_firstBreak 21 = .ok (.iaload, 1) := by decide +kernel
theorem dX5_firstBreak_22 : decode cX5_firstBreak 22 = .ok (.if_icmp .ge 5, 3) := by decide +kernel
theorem dX5_firstBreak_25 : decode cX5_firstBreak 25 = .ok (.iload_n 1, 1) := by decide +kernel
theorem dX5_firstBreak_26 : decode cX5_firstBreak 26 = .ok (.ireturn, 1) := by decide +kernel
theorem dX5_firstBreak_27 : decode cX5_firstBreak 27 = .ok (.iinc 1 1, 3) := by decide +kernel
theorem dX5_firstBreak_30 : decode cX5_firstBreak 30 = .ok (.goto (-28), 3) := by decide +kernel
theorem dX5_firstBreak_33 : decode cX5_firstBreak 33 = .ok (.bipush (-2), 2) := by decide +kernel
theorem dX5_firstBreak_35 : decode cX5_firstBreak 35 = .ok (.ireturn, 1) := by decide +kernel
theorem dX5_lastBreak_0 : decode cX5_lastBreak 0 = .ok (.bipush 11, 2) := by decide +kernel
theorem dX5_lastBreak_2 : decode cX5_lastBreak 2 = .ok (.istore_n 1, 1) := by decide +kernel
theorem dX5_lastBreak_3 : decode cX5_lastBreak 3 = .ok (.iload_n 1, 1) := by decide +kernel
theorem dX5_lastBreak_4 : decode cX5_lastBreak 4 = .ok (.ifCond .le 28, 3) := by decide +kernel
theorem dX5_lastBreak_7 : decode cX5_lastBreak 7 = .ok (.aload_n 0, 1) := by decide +kernel
theorem dX5_lastBreak_8 : decode cX5_lastBreak 8 = .ok (.getfield 9, 3) := by decide +kernel
theorem dX5_lastBreak_11 : decode cX5_lastBreak 11 = .ok (.iload_n 1, 1) := by decide +kernel
theorem dX5_lastBreak_12 : decode cX5_lastBreak 12 = .ok (.iaload, 1) := by decide +kernel
theorem dX5_lastBreak_13 : decode cX5_lastBreak 13 = .ok (.aload_n 0, 1) := by decide +kernel
theorem dX5_lastBreak_14 : decode cX5_lastBreak 14 = .ok (.getfield 9, 3) := by decide +kernel
theorem dX5_lastBreak_17 : decode cX5_lastBreak 17 = .ok (.iload_n 1, 1) := by decide +kernel
theorem dX5_lastBreak_18 : decode cX5_lastBreak 18 = .ok (.iconst 1, 1) := by decide +kernel
theorem dX5_lastBreak_19 : decode cX5_lastBreak 19 = .ok (.isub, 1) := by decide +kernel
theorem dX5_lastBreak_20 : decode cX5_lastBreak 20 = .ok (.iaload, 1) := by decide +kernel
theorem dX5_lastBreak_21 : decode cX5_lastBreak 21 = .ok (.if_icmp .ge 5, 3) := by decide +kernel
theorem dX5_lastBreak_24 : decode cX5_lastBreak 24 = .ok (.iload_n 1, 1) := by decide +kernel
theorem dX5_lastBreak_25 : decode cX5_lastBreak 25 = .ok (.ireturn, 1) := by decide +kernel
theorem dX5_lastBreak_26 : decode cX5_lastBreak 26 = .ok (.iinc 1 (-1), 3) := by decide +kernel
theorem dX5_lastBreak_29 : decode cX5_lastBreak 29 = .ok (.goto (-26), 3) := by decide +kernel
theorem dX5_lastBreak_32 : decode cX5_lastBreak 32 = .ok (.bipush (-2), 2) := by decide +kernel
theorem dX5_lastBreak_34 : decode cX5_lastBreak 34 = .ok (.ireturn, 1) := by decide +kernel
theorem dX6_init_0 : decode cX6_init 0 = .ok (.aload_n 0, 1) := by decide +kernel
theorem dX6_init_1 : decode cX6_init 1 = .ok (.invokespecial 3, 3) := by decide +kernel
theorem dX6_init_4 : decode cX6_init 4 = .ok (.aload_n 0, 1) := by decide +kernel
theorem dX6_init_5 : decode cX6_init 5 = .ok (.bipush 6, 2) := by decide +kernel
theorem dX6_init_7 : decode cX6_init 7 = .ok (.bipush 60, 2) := by decide +kernel
theorem dX6_init_9 : decode cX6_init 9 = .ok (.multianewarray 11 2, 4) := by decide +kernel
theorem dX6_init_13 : decode cX6_init 13 = .ok (.putfield 13, 3) := by decide +kernel
theorem dX6_init_16 : decode cX6_init 16 = .ok (.aload_n 0, 1) := by decide +kernel
theorem dX6_init_17 : decode cX6_init 17 = .ok (.bipush 6, 2) := by decide +kernel
theorem dX6_init_19 : decode cX6_init 19 = .ok (.newarray .int, 2) := by decide +kernel
theorem dX6_init_21 : decode cX6_init 21 = .ok (.putfield 16, 3) := by decide +kernel
theorem dX6_init_24 : decode cX6_init 24 = .ok (.aload_n 0, 1) := by decide +kernel
theorem dX6_init_25 : decode cX6_init 25 = .ok (.bipush 6, 2) := by decide +kernel
theorem dX6_init_27 : decode cX6_init 27 = .ok (.newarray .int, 2) := by decide +kernel
theorem dX6_init_29 : decode cX6_init 29 = .ok (.dup, 1) := by decide +kernel
theorem dX6_init_30 : decode cX6_init 30 = .ok (.iconst 0, 1) := by decide +kernel
theorem dX6_init_31 : decode cX6_init 31 = .ok (.iconst (-1), 1) := by decide +kernel
theorem dX6_init_32 : decode cX6_init 32 = .ok (.iastore, 1) := by decide +kernel
theorem dX6_init_33 : decode cX6_init 33 = .ok (.dup, 1) := by decide +kernel
theorem dX6_init_34 : decode cX6_init 34 = .ok (.iconst 1, 1) := by decide +kernel
theorem dX6_init_35 : decode cX6_init 35 = .ok (.iconst (-1), 1) := by decide +kernel
theorem dX6_init_36 : decode cX6_init 36 = .ok (.iastore, 1) := by decide +kernel
theorem dX6_init_37 : decode cX6_init 37 = .ok (.dup, 1) := by decide +kernel
theorem dX6_init_38 : decode cX6_init 38 = .ok (.iconst 2, 1) := by decide +kernel
theorem dX6_init_39 : decode cX6_init 39 = .ok (.iconst (-1), 1) := by decide +kernel
theorem dX6_init_40 : decode cX6_init 40 = .ok (.iastore, 1) := by decide +kernel
theorem dX6_init_41 : decode cX6_init 41 = .ok (.dup, 1) := by decide +kernel
theorem dX6_init_42 : decode cX6_init 42 = .ok (.iconst 3, 1) := by decide +kernel
theorem dX6_init_43 : decode cX6_init 43 = .ok (.iconst (-1), 1) := by decide +kernel
theorem dX6_init_44 : decode cX6_init 44 = .ok (.iastore, 1) := by decide +kernel
theorem dX6_init_45 : decode cX6_init 45 = .ok (.dup, 1) := by decide +kernel
theorem dX6_init_46 : decode cX6_init 46 = .ok (.iconst 4, 1) := by decide +kernel
theorem dX6_init_47 : decode cX6_init 47 = .ok (.iconst (-1), 1) := by decide +kernel
theorem dX6_init_48 : decode cX6_init 48 = .ok (.iastore, 1) := by decide +kernel
theorem dX6_init_49 : decode cX6_init 49 = .ok (.dup, 1) := by decide +kernel
theorem dX6_init_50 : decode cX6_init 50 = .ok (.iconst 5, 1) := by decide +kernel
theorem dX6_init_51 : decode cX6_init 51 = .ok (.iconst (-1), 1) := by decide +kernel
theorem dX6_init_52 : decode cX6_init 52 = .ok (.iastore, 1) := by decide +kernel
theorem dX6_init_53 : decode cX6_init 53 = .ok (.putfield 20, 3) := by decide +kernel
theorem dX6_init_56 : decode cX6_init 56 = .ok (.aload_n 0, 1) := by decide +kernel
theorem dX6_init_57 : decode cX6_init 57 = .ok (.bipush 6, 2) := by decide +kernel
theorem dX6_init_59 : decode cX6_init 59 = .ok (.newarray .int, 2) := by decide +kernel
theorem dX6_init_61 : decode cX6_init 61 = .ok (.putfield 23, 3) := by decide +kernel
theorem dX6_init_64 : decode cX6_init 64 = .ok (.return_, 1) := by decide +kernel
theorem dX6_isShelf_0 : decode cX6_isShelf 0 = .ok (.iload_n 1, 1) := by decide +kernel
theorem dX6_isShelf_1 : decode cX6_isShelf 1 = .ok (.ifCond .lt 13, 3) := by decide +kernel
theorem dX6_isShelf_4 : decode cX6_isShelf 4 = .ok (.iload_n 1, 1) := by decide +kernel
theorem dX6_isShelf_5 : decode cX6_isShelf 5 = .ok (.bipush 6, 2) := by decide +kernel
theorem dX6_isShelf_7 : decode cX6_isShelf 7 = .ok (.if_icmp .ge 7, 3) := by decide +kernel
theorem dX6_isShelf_10 : decode cX6_isShelf 10 = .ok (.iconst 1, 1) := by decide +kernel
theorem dX6_isShelf_11 : decode cX6_isShelf 11 = .ok (.goto 4, 3) := by decide +kernel
theorem dX6_isShelf_14 : decode cX6_isShelf 14 = .ok (.iconst 0, 1) := by decide +kernel
theorem dX6_isShelf_15 : decode cX6_isShelf 15 = .ok (.ireturn, 1) := by decide +kernel
theorem dX6_isSort_0 : decode cX6_isSort 0 = .ok (.iload_n 1, 1) := by decide +kernel
theorem dX6_isSort_1 : decode cX6_isSort 1 = .ok (.ifCond .lt 12, 3) := by decide +kernel
theorem dX6_isSort_4 : decode cX6_isSort 4 = .ok (.iload_n 1, 1) := by decide +kernel
theorem dX6_isSort_5 : decode cX6_isSort 5 = .ok (.iconst 5, 1) := by decide +kernel
theorem dX6_isSort_6 : decode cX6_isSort 6 = .ok (.if_icmp .ge 7, 3) := by decide +kernel
theorem dX6_isSort_9 : decode cX6_isSort 9 = .ok (.iconst 1, 1) := by decide +kernel
theorem dX6_isSort_10 : decode cX6_isSort 10 = .ok (.goto 4, 3) := by decide +kernel
theorem dX6_isSort_13 : decode cX6_isSort 13 = .ok (.iconst 0, 1) := by decide +kernel
theorem dX6_isSort_14 : decode cX6_isSort 14 = .ok (.ireturn, 1) := by decide +kernel
theorem dX6_isEmpty_0 : decode cX6_isEmpty 0 = .ok (.aload_n 0, 1) := by decide +kernel
theorem dX6_isEmpty_1 : decode cX6_isEmpty 1 = .ok (.getfield 20, 3) := by decide +kernel
theorem dX6_isEmpty_4 : decode cX6_isEmpty 4 = .ok (.iload_n 1, 1) := by decide +kernel
theorem dX6_isEmpty_5 : decode cX6_isEmpty 5 = .ok (.iaload, 1) := by decide +kernel
theorem dX6_isEmpty_6 : decode cX6_isEmpty 6 = .ok (.iconst (-1), 1) := by decide +kernel
theorem dX6_isEmpty_7 : decode cX6_isEmpty 7 = .ok (.if_icmp .ne 7, 3) := by decide +kernel
theorem dX6_isEmpty_10 : decode cX6_isEmpty 10 = .ok (.iconst 1, 1) := by decide +kernel
theorem dX6_isEmpty_11 : decode cX6_isEmpty 11 = .ok (.goto 4, 3) := by decide +kernel
theorem dX6_isEmpty_14 : decode cX6_isEmpty 14 = .ok (.iconst 0, 1) := by decide +kernel
theorem dX6_isEmpty_15 : decode cX6_isEmpty 15 = .ok (.ireturn, 1) := by decide +kernel
theorem dX6_isDoor_0 : decode cX6_isDoor 0 = .ok (.aload_n 0, 1) := by decide +kernel
theorem dX6_isDoor_1 : decode cX6_isDoor 1 = .ok (.getfield 20, 3) := by decide +kernel
theorem dX6_isDoor_4 : decode cX6_isDoor 4 = .ok (.iload_n 1, 1) := by decide +kernel
theorem dX6_isDoor_5 : decode cX6_isDoor 5 = .ok (.iaload, 1) := by decide +kernel
theorem dX6_isDoor_6 : decode cX6_isDoor 6 = .ok (.bipush (-2), 2) := by decide +kernel
theorem dX6_isDoor_8 : decode cX6_isDoor 8 = .ok (.if_icmp .ne 7, 3) := by decide +kernel
theorem dX6_isDoor_11 : decode cX6_isDoor 11 = .ok (.iconst 1, 1) := by decide +kernel
theorem dX6_isDoor_12 : decode cX6_isDoor 12 = .ok (.goto 4, 3) := by decide +kernel
theorem dX6_isDoor_15 : decode cX6_isDoor 15 = .ok (.iconst 0, 1) := by decide +kernel
theorem dX6_isDoor_16 : decode cX6_isDoor 16 = .ok (.ireturn, 1) := by decide +kernel
theorem dX6_isRowOf_0 : decode cX6_isRowOf 0 = .ok (.aload_n 0, 1) := by decide +kernel
theorem dX6_isRowOf_1 : decode cX6_isRowOf 1 = .ok (.getfield 20, 3) := by decide +kernel
theorem dX6_isRowOf_4 : decode cX6_isRowOf 4 = .ok (.iload_n 1, 1) := by decide +kernel
theorem dX6_isRowOf_5 : decode cX6_isRowOf 5 = .ok (.iaload, 1) := by decide +kernel
theorem dX6_isRowOf_6 : decode cX6_isRowOf 6 = .ok (.iload_n 2, 1) := by decide +kernel
theorem dX6_isRowOf_7 : decode cX6_isRowOf 7 = .ok (.if_icmp .ne 7, 3) := by decide +kernel
theorem dX6_isRowOf_10 : decode cX6_isRowOf 10 = .ok (.iconst 1, 1) := by decide +kernel
theorem dX6_isRowOf_11 : decode cX6_isRowOf 11 = .ok (.goto 4, 3) := by decide +kernel
theorem dX6_isRowOf_14 : decode cX6_isRowOf 14 = .ok (.iconst 0, 1) := by decide +kernel
theorem dX6_isRowOf_15 : decode cX6_isRowOf 15 = .ok (.ireturn, 1) := by decide +kernel
theorem dX6_areAlike_0 : decode cX6_areAlike 0 = .ok (.aload_n 0, 1) := by decide +kernel
theorem dX6_areAlike_1 : decode cX6_areAlike 1 = .ok (.aload_n 0, 1) := by decide +kernel
theorem dX6_areAlike_2 : decode cX6_areAlike 2 = .ok (.getfield 20, 3) := by decide +kernel
theorem dX6_areAlike_5 : decode cX6_areAlike 5 = .ok (.iload_n 1, 1) := by decide +kernel
theorem dX6_areAlike_6 : decode cX6_areAlike 6 = .ok (.iaload, 1) := by decide +kernel
theorem dX6_areAlike_7 : decode cX6_areAlike 7 = .ok (.invokevirtual 26, 3) := by decide +kernel
theorem dX6_areAlike_10 : decode cX6_areAlike 10 = .ok (.ifCond .eq 22, 3) := by decide +kernel
theorem dX6_areAlike_13 : decode cX6_areAlike 13 = .ok (.aload_n 0, 1) := by decide +kernel
theorem dX6_areAlike_14 : decode cX6_areAlike 14 = .ok (.getfield 20, 3) := by decide +kernel
theorem dX6_areAlike_17 : decode cX6_areAlike 17 = .ok (.iload_n 1, 1) := by decide +kernel
theorem dX6_areAlike_18 : decode cX6_areAlike 18 = .ok (.iaload, 1) := by decide +kernel
theorem dX6_areAlike_19 : decode cX6_areAlike 19 = .ok (.aload_n 0, 1) := by decide +kernel
theorem dX6_areAlike_20 : decode cX6_areAlike 20 = .ok (.getfield 20, 3) := by decide +kernel
theorem dX6_areAlike_23 : decode cX6_areAlike 23 = .ok (.iload_n 2, 1) := by decide +kernel
theorem dX6_areAlike_24 : decode cX6_areAlike 24 = .ok (.iaload, 1) := by decide +kernel
theorem dX6_areAlike_25 : decode cX6_areAlike 25 = .ok (.if_icmp .ne 7, 3) := by decide +kernel
theorem dX6_areAlike_28 : decode cX6_areAlike 28 = .ok (.iconst 1, 1) := by decide +kernel
theorem dX6_areAlike_29 : decode cX6_areAlike 29 = .ok (.goto 4, 3) := by decide +kernel
theorem dX6_areAlike_32 : decode cX6_areAlike 32 = .ok (.iconst 0, 1) := by decide +kernel
theorem dX6_areAlike_33 : decode cX6_areAlike 33 = .ok (.ireturn, 1) := by decide +kernel
theorem dX6_refusal_0 : decode cX6_refusal 0 = .ok (.aload_n 0, 1) := by decide +kernel
theorem dX6_refusal_1 : decode cX6_refusal 1 = .ok (.iload_n 1, 1) := by decide +kernel
theorem dX6_refusal_2 : decode cX6_refusal 2 = .ok (.invokevirtual 30, 3) := by decide +kernel
theorem dX6_refusal_5 : decode cX6_refusal 5 = .ok (.ifCond .eq 6, 3) := by decide +kernel
theorem dX6_refusal_8 : decode cX6_refusal 8 = .ok (.bipush (-11), 2) := by decide +kernel
theorem dX6_refusal_10 : decode cX6_refusal 10 = .ok (.ireturn, 1) := by decide +kernel
theorem dX6_refusal_11 : decode cX6_refusal 11 = .ok (.aload_n 0, 1) := by decide +kernel
theorem dX6_refusal_12 : decode cX6_refusal 12 = .ok (.iload_n 1, 1) := by decide +kernel
theorem dX6_refusal_13 : decode cX6_refusal 13 = .ok (.iload_n 2, 1) := by decide +kernel
theorem dX6_refusal_14 : decode cX6_refusal 14 = .ok (.invokevirtual 33, 3) := by decide +kernel
theorem dX6_refusal_17 : decode cX6_refusal 17 = .ok (.ifCond .eq 7, 3) := by decide +kernel
theorem dX6_refusal_20 : decode cX6_refusal 20 = .ok (.iconst 0, 1) := by decide +kernel
theorem dX6_refusal_21 : decode cX6_refusal 21 = .ok (.goto 5, 3) := by decide +kernel
theorem dX6_refusal_24 : decode cX6_refusal 24 = .ok (.bipush (-12), 2) := by decide +kernel
theorem dX6_refusal_26 : decode cX6_refusal 26 = .ok (.ireturn, 1) := by decide +kernel
theorem dX6_doorOn_0 : decode cX6_doorOn 0 = .ok (.aload_n 0, 1) := by decide +kernel
theorem dX6_doorOn_1 : decode cX6_doorOn 1 = .ok (.getfield 23, 3) := by decide +kernel
theorem dX6_doorOn_4 : decode cX6_doorOn 4 = .ok (.iload_n 1, 1) := by decide +kernel
theorem dX6_doorOn_5 : decode cX6_doorOn 5 = .ok (.iaload, 1) := by decide +kernel
theorem dX6_doorOn_6 : decode cX6_doorOn 6 = .ok (.ireturn, 1) := by decide +kernel
theorem dX6_size_0 : decode cX6_size 0 = .ok (.aload_n 0, 1) := by decide +kernel
theorem dX6_size_1 : decode cX6_size 1 = .ok (.getfield 16, 3) := by decide +kernel
theorem dX6_size_4 : decode cX6_size 4 = .ok (.iload_n 1, 1) := by decide +kernel
theorem dX6_size_5 : decode cX6_size 5 = .ok (.iaload, 1) := by decide +kernel
theorem dX6_size_6 : decode cX6_size 6 = .ok (.ireturn, 1) := by decide +kernel
theorem dX6_valueAt_0 : decode cX6_valueAt 0 = .ok (.aload_n 0, 1) := by decide +kernel
theorem dX6_valueAt_1 : decode cX6_valueAt 1 = .ok (.getfield 13, 3) := by decide +kernel
theorem dX6_valueAt_4 : decode cX6_valueAt 4 = .ok (.iload_n 1, 1) := by decide +kernel
theorem dX6_valueAt_5 : decode cX6_valueAt 5 = .ok (.aaload, 1) := by decide +kernel
theorem dX6_valueAt_6 : decode cX6_valueAt 6 = .ok (.iload_n 2, 1) := by decide +kernel
theorem dX6_valueAt_7 : decode cX6_valueAt 7 = .ok (.laload, 1) := by decide +kernel
theorem dX6_valueAt_8 : decode cX6_valueAt 8 = .ok (.lreturn, 1) := by decide +kernel
theorem dX6_hasPart_0 : decode cX6_hasPart 0 = .ok (.iload_n 2, 1) := by decide +kernel
theorem dX6_hasPart_1 : decode cX6_hasPart 1 = .ok (.ifCond .lt 33, 3) := by decide +kernel
theorem dX6_hasPart_4 : decode cX6_hasPart 4 = .ok (.iload_n 3, 1) := by decide +kernel
theorem dX6_hasPart_5 : decode cX6_hasPart 5 = .ok (.ifCond .lt 29, 3) := by decide +kernel
theorem dX6_hasPart_8 : decode cX6_hasPart 8 = .ok (.iload_n 3, 1) := by decide +kernel
theorem dX6_hasPart_9 : decode cX6_hasPart 9 = .ok (.aload_n 0, 1) := by decide +kernel
theorem dX6_hasPart_10 : decode cX6_hasPart 10 = .ok (.getfield 16, 3) := by decide +kernel
theorem dX6_hasPart_13 : decode cX6_hasPart 13 = .ok (.iload_n 1, 1) := by decide +kernel
theorem dX6_hasPart_14 : decode cX6_hasPart 14 = .ok (.iaload, 1) := by decide +kernel
theorem dX6_hasPart_15 : decode cX6_hasPart 15 = .ok (.if_icmp .gt 19, 3) := by decide +kernel
theorem dX6_hasPart_18 : decode cX6_hasPart 18 = .ok (.iload_n 2, 1) := by decide +kernel
theorem dX6_hasPart_19 : decode cX6_hasPart 19 = .ok (.aload_n 0, 1) := by decide +kernel
theorem dX6_hasPart_20 : decode cX6_hasPart 20 = .ok (.getfield 16, 3) := by decide +kernel
theorem dX6_hasPart_23 : decode cX6_hasPart 23 = .ok (.iload_n 1, 1) := by decide +kernel
theorem dX6_hasPart_24 : decode cX6_hasPart 24 = .ok (.iaload, 1) := by decide +kernel
theorem dX6_hasPart_25 : decode cX6_hasPart 25 = .ok (.iload_n 3, 1) := by decide +kernel
theorem dX6_hasPart_26 : decode cX6_hasPart 26 = .ok (.isub, 1) := by decide +kernel
theorem dX6_hasPart_27 : decode cX6_hasPart 27 = .ok (.if_icmp .gt 7, 3) := by decide +kernel
theorem dX6_hasPart_30 : decode cX6_hasPart 30 = .ok (.iconst 1, 1) := by decide +kernel
theorem dX6_hasPart_31 : decode cX6_hasPart 31 = .ok (.goto 4, 3) := by decide +kernel
theorem dX6_hasPart_34 : decode cX6_hasPart 34 = .ok (.iconst 0, 1) := by decide +kernel
theorem dX6_hasPart_35 : decode cX6_hasPart 35 = .ok (.ireturn, 1) := by decide +kernel
theorem dX6_setEmpty_0 : decode cX6_setEmpty 0 = .ok (.aload_n 0, 1) := by decide +kernel
theorem dX6_setEmpty_1 : decode cX6_setEmpty 1 = .ok (.getfield 20, 3) := by decide +kernel
theorem dX6_setEmpty_4 : decode cX6_setEmpty 4 = .ok (.iload_n 1, 1) := by decide +kernel
theorem dX6_setEmpty_5 : decode cX6_setEmpty 5 = .ok (.iconst (-1), 1) := by decide +kernel
theorem dX6_setEmpty_6 : decode cX6_setEmpty 6 = .ok (.iastore, 1) := by decide +kernel
theorem dX6_setEmpty_7 : decode cX6_setEmpty 7 = .ok (.aload_n 0, 1) := by decide +kernel
theorem dX6_setEmpty_8 : decode cX6_setEmpty 8 = .ok (.getfield 16, 3) := by decide +kernel
theorem dX6_setEmpty_11 : decode cX6_setEmpty 11 = .ok (.iload_n 1, 1) := by decide +kernel
theorem dX6_setEmpty_12 : decode cX6_setEmpty 12 = .ok (.iconst 0, 1) := by decide +kernel
theorem dX6_setEmpty_13 : decode cX6_setEmpty 13 = .ok (.iastore, 1) := by decide +kernel
theorem dX6_setEmpty_14 : decode cX6_setEmpty 14 = .ok (.return_, 1) := by decide +kernel
theorem dX6_setDoor_0 : decode cX6_setDoor 0 = .ok (.aload_n 0, 1) := by decide +kernel
theorem dX6_setDoor_1 : decode cX6_setDoor 1 = .ok (.getfield 20, 3) := by decide +kernel
theorem dX6_setDoor_4 : decode cX6_setDoor 4 = .ok (.iload_n 1, 1) := by decide +kernel
theorem dX6_setDoor_5 : decode cX6_setDoor 5 = .ok (.bipush (-2), 2) := by decide +kernel
theorem dX6_setDoor_7 : decode cX6_setDoor 7 = .ok (.iastore, 1) := by decide +kernel
theorem dX6_setDoor_8 : decode cX6_setDoor 8 = .ok (.aload_n 0, 1) := by decide +kernel
theorem dX6_setDoor_9 : decode cX6_setDoor 9 = .ok (.getfield 23, 3) := by decide +kernel
theorem dX6_setDoor_12 : decode cX6_setDoor 12 = .ok (.iload_n 1, 1) := by decide +kernel
theorem dX6_setDoor_13 : decode cX6_setDoor 13 = .ok (.iload_n 2, 1) := by decide +kernel
theorem dX6_setDoor_14 : decode cX6_setDoor 14 = .ok (.iastore, 1) := by decide +kernel
theorem dX6_setDoor_15 : decode cX6_setDoor 15 = .ok (.aload_n 0, 1) := by decide +kernel
theorem dX6_setDoor_16 : decode cX6_setDoor 16 = .ok (.getfield 16, 3) := by decide +kernel
theorem dX6_setDoor_19 : decode cX6_setDoor 19 = .ok (.iload_n 1, 1) := by decide +kernel
theorem dX6_setDoor_20 : decode cX6_setDoor 20 = .ok (.iconst 0, 1) := by decide +kernel
theorem dX6_setDoor_21 : decode cX6_setDoor 21 = .ok (.iastore, 1) := by decide +kernel
theorem dX6_setDoor_22 : decode cX6_setDoor 22 = .ok (.return_, 1) := by decide +kernel
theorem dX6_setRow_0 : decode cX6_setRow 0 = .ok (.aload_n 0, 1) := by decide +kernel
theorem dX6_setRow_1 : decode cX6_setRow 1 = .ok (.getfield 20, 3) := by decide +kernel
theorem dX6_setRow_4 : decode cX6_setRow 4 = .ok (.iload_n 1, 1) := by decide +kernel
theorem dX6_setRow_5 : decode cX6_setRow 5 = .ok (.iload_n 2, 1) := by decide +kernel
theorem dX6_setRow_6 : decode cX6_setRow 6 = .ok (.iastore, 1) := by decide +kernel
theorem dX6_setRow_7 : decode cX6_setRow 7 = .ok (.aload_n 0, 1) := by decide +kernel
theorem dX6_setRow_8 : decode cX6_setRow 8 = .ok (.getfield 16, 3) := by decide +kernel
theorem dX6_setRow_11 : decode cX6_setRow 11 = .ok (.iload_n 1, 1) := by decide +kernel
theorem dX6_setRow_12 : decode cX6_setRow 12 = .ok (.iload_n 3, 1) := by decide +kernel
theorem dX6_setRow_13 : decode cX6_setRow 13 = .ok (.iastore, 1) := by decide +kernel
theorem dX6_setRow_14 : decode cX6_setRow 14 = .ok (.aload_n 0, 1) := by decide +kernel
theorem dX6_setRow_15 : decode cX6_setRow 15 = .ok (.getfield 13, 3) := by decide +kernel
theorem dX6_setRow_18 : decode cX6_setRow 18 = .ok (.iload_n 1, 1) := by decide +kernel
theorem dX6_setRow_19 : decode cX6_setRow 19 = .ok (.aaload, 1) := by decide +kernel
theorem dX6_setRow_20 : decode cX6_setRow 20 = .ok (.lconst 0, 1) := by decide +kernel
theorem dX6_setRow_21 : decode cX6_setRow 21 = .ok (.invokestatic 37, 3) := by decide +kernel
theorem dX6_setRow_24 : decode cX6_setRow 24 = .ok (.return_, 1) := by decide +kernel
theorem dX6_store_0 : decode cX6_store 0 = .ok (.aload_n 0, 1) := by decide +kernel
theorem dX6_store_1 : decode cX6_store 1 = .ok (.getfield 13, 3) := by decide +kernel
theorem dX6_store_4 : decode cX6_store 4 = .ok (.iload_n 1, 1) := by decide +kernel
theorem dX6_store_5 : decode cX6_store 5 = .ok (.aaload, 1) := by decide +kernel
theorem dX6_store_6 : decode cX6_store 6 = .ok (.iload_n 2, 1) := by decide +kernel
theorem dX6_store_7 : decode cX6_store 7 = .ok (.aload_n 0, 1) := by decide +kernel
theorem dX6_store_8 : decode cX6_store 8 = .ok (.getfield 20, 3) := by decide +kernel
theorem dX6_store_11 : decode cX6_store 11 = .ok (.iload_n 1, 1) := by decide +kernel
theorem dX6_store_12 : decode cX6_store 12 = .ok (.iaload, 1) := by decide +kernel
theorem dX6_store_13 : decode cX6_store 13 = .ok (.lload_n 3, 1) := by decide +kernel
theorem dX6_store_14 : decode cX6_store 14 = .ok (.invokestatic 43, 3) := by decide +kernel
theorem dX6_store_17 : decode cX6_store 17 = .ok (.lastore, 1) := by decide +kernel
theorem dX6_store_18 : decode cX6_store 18 = .ok (.return_, 1) := by decide +kernel
theorem dX6_cut_0 : decode cX6_cut 0 = .ok (.iload_n 0, 1) := by decide +kernel
theorem dX6_cut_1 : decode cX6_cut 1 = .ok (.tableswitch 47 0 3 #[31, 36, 41, 45], 31) := by decide +kernel
theorem dX6_cut_32 : decode cX6_cut 32 = .ok (.lload_n 1, 1) := by decide +kernel
theorem dX6_cut_33 : decode cX6_cut 33 = .ok (.l2i, 1) := by decide +kernel
theorem dX6_cut_34 : decode cX6_cut 34 = .ok (.i2b, 1) := by decide +kernel
theorem dX6_cut_35 : decode cX6_cut 35 = .ok (.i2l, 1) := by decide +kernel
theorem dX6_cut_36 : decode cX6_cut 36 = .ok (.lreturn, 1) := by decide +kernel
theorem dX6_cut_37 : decode cX6_cut 37 = .ok (.lload_n 1, 1) := by decide +kernel
theorem dX6_cut_38 : decode cX6_cut 38 = .ok (.l2i, 1) := by decide +kernel
theorem dX6_cut_39 : decode cX6_cut 39 = .ok (.i2s, 1) := by decide +kernel
theorem dX6_cut_40 : decode cX6_cut 40 = .ok (.i2l, 1) := by decide +kernel
theorem dX6_cut_41 : decode cX6_cut 41 = .ok (.lreturn, 1) := by decide +kernel
theorem dX6_cut_42 : decode cX6_cut 42 = .ok (.lload_n 1, 1) := by decide +kernel
theorem dX6_cut_43 : decode cX6_cut 43 = .ok (.l2i, 1) := by decide +kernel
theorem dX6_cut_44 : decode cX6_cut 44 = .ok (.i2l, 1) := by decide +kernel
theorem dX6_cut_45 : decode cX6_cut 45 = .ok (.lreturn, 1) := by decide +kernel
theorem dX6_cut_46 : decode cX6_cut 46 = .ok (.lload_n 1, 1) := by decide +kernel
theorem dX6_cut_47 : decode cX6_cut 47 = .ok (.lreturn, 1) := by decide +kernel
theorem dX6_cut_48 : decode cX6_cut 48 = .ok (.lload_n 1, 1) := by decide +kernel
theorem dX6_cut_49 : decode cX6_cut 49 = .ok (.lconst 0, 1) := by decide +kernel
theorem dX6_cut_50 : decode cX6_cut 50 = .ok (.lcmp, 1) := by decide +kernel
theorem dX6_cut_51 : decode cX6_cut 51 = .ok (.ifCond .eq 7, 3) := by decide +kernel
theorem dX6_cut_54 : decode cX6_cut 54 = .ok (.lconst 1, 1) := by decide +kernel
theorem dX6_cut_55 : decode cX6_cut 55 = .ok (.goto 4, 3) := by decide +kernel
theorem dX6_cut_58 : decode cX6_cut 58 = .ok (.lconst 0, 1) := by decide +kernel
theorem dX6_cut_59 : decode cX6_cut 59 = .ok (.lreturn, 1) := by decide +kernel
theorem dX6_copyPart_0 : decode cX6_copyPart 0 = .ok (.aload_n 0, 1) := by decide +kernel
theorem dX6_copyPart_1 : decode cX6_copyPart 1 = .ok (.getfield 13, 3) := by decide +kernel
theorem dX6_copyPart_4 : decode cX6_copyPart 4 = .ok (.iload_n 1, 1) := by decide +kernel
theorem dX6_copyPart_5 : decode cX6_copyPart 5 = .ok (.aaload, 1) := by decide +kernel
theorem dX6_copyPart_6 : decode cX6_copyPart 6 = .ok (.iload_n 2, 1) := by decide +kernel
theorem dX6_copyPart_7 : decode cX6_copyPart 7 = .ok (.aload_n 0, 1) := by decide +kernel
theorem dX6_copyPart_8 : decode cX6_copyPart 8 = .ok (.getfield 13, 3) := by decide +kernel
theorem dX6_copyPart_11 : decode cX6_copyPart 11 = .ok (.iload_n 3, 1) := by decide +kernel
theorem dX6_copyPart_12 : decode cX6_copyPart 12 = .ok (.aaload, 1) := by decide +kernel
theorem dX6_copyPart_13 : decode cX6_copyPart 13 = .ok (.iload 4, 2) := by decide +kernel
theorem dX6_copyPart_15 : decode cX6_copyPart 15 = .ok (.iload 5, 2) := by decide +kernel
theorem dX6_copyPart_17 : decode cX6_copyPart 17 = .ok (.invokestatic 47, 3) := by decide +kernel
theorem dX6_copyPart_20 : decode cX6_copyPart 20 = .ok (.return_, 1) := by decide +kernel
theorem dX7_init_0 : decode cX7_init 0 = .ok (.aload_n 0, 1) := by decide +kernel
theorem dX7_init_1 : decode cX7_init 1 = .ok (.invokespecial 1, 3) := by decide +kernel
theorem dX7_init_4 : decode cX7_init 4 = .ok (.aload_n 0, 1) := by decide +kernel
theorem dX7_init_5 : decode cX7_init 5 = .ok (.new 7, 3) := by decide +kernel
theorem dX7_init_8 : decode cX7_init 8 = .ok (.dup, 1) := by decide +kernel
theorem dX7_init_9 : decode cX7_init 9 = .ok (.invokespecial 9, 3) := by decide +kernel
theorem dX7_init_12 : decode cX7_init 12 = .ok (.putfield 10, 3) := by decide +kernel
theorem dX7_init_15 : decode cX7_init 15 = .ok (.aload_n 0, 1) := by decide +kernel
theorem dX7_init_16 : decode cX7_init 16 = .ok (.new 16, 3) := by decide +kernel
theorem dX7_init_19 : decode cX7_init 19 = .ok (.dup, 1) := by decide +kernel
theorem dX7_init_20 : decode cX7_init 20 = .ok (.invokespecial 18, 3) := by decide +kernel
theorem dX7_init_23 : decode cX7_init 23 = .ok (.putfield 19, 3) := by decide +kernel
theorem dX7_init_26 : decode cX7_init 26 = .ok (.aload_n 0, 1) := by decide +kernel
theorem dX7_init_27 : decode cX7_init 27 = .ok (.new 23, 3) := by decide +kernel
theorem dX7_init_30 : decode cX7_init 30 = .ok (.dup, 1) := by decide +kernel
theorem dX7_init_31 : decode cX7_init 31 = .ok (.invokespecial 25, 3) := by decide +kernel
theorem dX7_init_34 : decode cX7_init 34 = .ok (.putfield 26, 3) := by decide +kernel
theorem dX7_init_37 : decode cX7_init 37 = .ok (.aload_n 0, 1) := by decide +kernel
theorem dX7_init_38 : decode cX7_init 38 = .ok (.new 23, 3) := by decide +kernel
theorem dX7_init_41 : decode cX7_init 41 = .ok (.dup, 1) := by decide +kernel
theorem dX7_init_42 : decode cX7_init 42 = .ok (.invokespecial 25, 3) := by decide +kernel
theorem dX7_init_45 : decode cX7_init 45 = .ok (.putfield 30, 3) := by decide +kernel
theorem dX7_init_48 : decode cX7_init 48 = .ok (.aload_n 0, 1) := by decide +kernel
theorem dX7_init_49 : decode cX7_init 49 = .ok (.new 23, 3) := by decide +kernel
theorem dX7_init_52 : decode cX7_init 52 = .ok (.dup, 1) := by decide +kernel
theorem dX7_init_53 : decode cX7_init 53 = .ok (.invokespecial 25, 3) := by decide +kernel
theorem dX7_init_56 : decode cX7_init 56 = .ok (.putfield 33, 3) := by decide +kernel
theorem dX7_init_59 : decode cX7_init 59 = .ok (.aload_n 0, 1) := by decide +kernel
theorem dX7_init_60 : decode cX7_init 60 = .ok (.iconst 0, 1) := by decide +kernel
theorem dX7_init_61 : decode cX7_init 61 = .ok (.putfield 36, 3) := by decide +kernel
theorem dX7_init_64 : decode cX7_init 64 = .ok (.aload_n 0, 1) := by decide +kernel
theorem dX7_init_65 : decode cX7_init 65 = .ok (.iconst 0, 1) := by decide +kernel
theorem dX7_init_66 : decode cX7_init 66 = .ok (.putfield 40, 3) := by decide +kernel
theorem dX7_init_69 : decode cX7_init 69 = .ok (.aload_n 0, 1) := by decide +kernel
theorem dX7_init_70 : decode cX7_init 70 = .ok (.new 44, 3) := by decide +kernel
theorem dX7_init_73 : decode cX7_init 73 = .ok (.dup, 1) := by decide +kernel
theorem dX7_init_74 : decode cX7_init 74 = .ok (.invokespecial 46, 3) := by decide +kernel
theorem dX7_init_77 : decode cX7_init 77 = .ok (.putfield 47, 3) := by decide +kernel
theorem dX7_init_80 : decode cX7_init 80 = .ok (.aload_n 0, 1) := by decide +kernel
theorem dX7_init_81 : decode cX7_init 81 = .ok (.new 51, 3) := by decide +kernel
theorem dX7_init_84 : decode cX7_init 84 = .ok (.dup, 1) := by decide +kernel
theorem dX7_init_85 : decode cX7_init 85 = .ok (.invokespecial 53, 3) := by decide +kernel
theorem dX7_init_88 : decode cX7_init 88 = .ok (.putfield 54, 3) := by decide +kernel
theorem dX7_init_91 : decode cX7_init 91 = .ok (.aload_n 0, 1) := by decide +kernel
theorem dX7_init_92 : decode cX7_init 92 = .ok (.new 58, 3) := by decide +kernel
theorem dX7_init_95 : decode cX7_init 95 = .ok (.dup, 1) := by decide +kernel
theorem dX7_init_96 : decode cX7_init 96 = .ok (.invokespecial 60, 3) := by decide +kernel
theorem dX7_init_99 : decode cX7_init 99 = .ok (.putfield 61, 3) := by decide +kernel
theorem dX7_init_102 : decode cX7_init 102 = .ok (.aload_n 0, 1) := by decide +kernel
theorem dX7_init_103 : decode cX7_init 103 = .ok (.new 65, 3) := by decide +kernel
theorem dX7_init_106 : decode cX7_init 106 = .ok (.dup, 1) := by decide +kernel
theorem dX7_init_107 : decode cX7_init 107 = .ok (.invokespecial 67, 3) := by decide +kernel
theorem dX7_init_110 : decode cX7_init 110 = .ok (.putfield 68, 3) := by decide +kernel
theorem dX7_init_113 : decode cX7_init 113 = .ok (.aload_n 0, 1) := by decide +kernel
theorem dX7_init_114 : decode cX7_init 114 = .ok (.iconst 2, 1) := by decide +kernel
theorem dX7_init_115 : decode cX7_init 115 = .ok (.newarray .int, 2) := by decide +kernel
theorem dX7_init_117 : decode cX7_init 117 = .ok (.putfield 72, 3) := by decide +kernel
theorem dX7_init_120 : decode cX7_init 120 = .ok (.aload_n 0, 1) := by decide +kernel
theorem dX7_init_121 : decode cX7_init 121 = .ok (.bipush 12, 2) := by decide +kernel
theorem dX7_init_123 : decode cX7_init 123 = .ok (.newarray .int, 2) := by decide +kernel
theorem dX7_init_125 : decode cX7_init 125 = .ok (.putfield 76, 3) := by decide +kernel
theorem dX7_init_128 : decode cX7_init 128 = .ok (.aload_n 0, 1) := by decide +kernel
theorem dX7_init_129 : decode cX7_init 129 = .ok (.bipush 12, 2) := by decide +kernel
theorem dX7_init_131 : decode cX7_init 131 = .ok (.newarray .int, 2) := by decide +kernel
theorem dX7_init_133 : decode cX7_init 133 = .ok (.putfield 79, 3) := by decide +kernel
theorem dX7_init_136 : decode cX7_init 136 = .ok (.aload_n 0, 1) := by decide +kernel
theorem dX7_init_137 : decode cX7_init 137 = .ok (.bipush 10, 2) := by decide +kernel
theorem dX7_init_139 : decode cX7_init 139 = .ok (.newarray .int, 2) := by decide +kernel
theorem dX7_init_141 : decode cX7_init 141 = .ok (.putfield 82, 3) := by decide +kernel
theorem dX7_init_144 : decode cX7_init 144 = .ok (.return_, 1) := by decide +kernel
theorem dX7_person_0 : decode cX7_person 0 = .ok (.iload_n 1, 1) := by decide +kernel
theorem dX7_person_1 : decode cX7_person 1 = .ok (.invokestatic 85, 3) := by decide +kernel
theorem dX7_person_4 : decode cX7_person 4 = .ok (.ifCond .ne 5, 3) := by decide +kernel
theorem dX7_person_7 : decode cX7_person 7 = .ok (.iconst (-1), 1) := by decide +kernel
theorem dX7_person_8 : decode cX7_person 8 = .ok (.ireturn, 1) := by decide +kernel
theorem dX7_person_9 : decode cX7_person 9 = .ok (.aload_n 0, 1) := by decide +kernel
theorem dX7_person_10 : decode cX7_person 10 = .ok (.getfield 10, 3) := by decide +kernel
theorem dX7_person_13 : decode cX7_person 13 = .ok (.getfield 89, 3) := by decide +kernel
theorem dX7_person_16 : decode cX7_person 16 = .ok (.bipush 10, 2) := by decide +kernel
theorem dX7_person_18 : decode cX7_person 18 = .ok (.if_icmp .ne 6, 3) := by decide +kernel
theorem dX7_person_21 : decode cX7_person 21 = .ok (.bipush (-3), 2) := by decide +kernel
theorem dX7_person_23 : decode cX7_person 23 = .ok (.ireturn, 1) := by decide +kernel
theorem dX7_person_24 : decode cX7_person 24 = .ok (.aload_n 0, 1) := by decide +kernel
theorem dX7_person_25 : decode cX7_person 25 = .ok (.getfield 10, 3) := by decide +kernel
theorem dX7_person_28 : decode cX7_person 28 = .ok (.iload_n 1, 1) := by decide +kernel
theorem dX7_person_29 : decode cX7_person 29 = .ok (.invokevirtual 92, 3) := by decide +kernel
theorem dX7_person_32 : decode cX7_person 32 = .ok (.ireturn, 1) := by decide +kernel
theorem dX7_wrong_0 : decode cX7_wrong 0 = .ok (.iload_n 1, 1) := by decide +kernel
theorem dX7_wrong_1 : decode cX7_wrong 1 = .ok (.ifCond .lt 22, 3) := by decide +kernel
theorem dX7_wrong_4 : decode cX7_wrong 4 = .ok (.aload_n 0, 1) := by decide +kernel
theorem dX7_wrong_5 : decode cX7_wrong 5 = .ok (.getfield 10, 3) := by decide +kernel
theorem dX7_wrong_8 : decode cX7_wrong 8 = .ok (.iload_n 1, 1) := by decide +kernel
theorem dX7_wrong_9 : decode cX7_wrong 9 = .ok (.bipush 10, 2) := by decide +kernel
theorem dX7_wrong_11 : decode cX7_wrong 11 = .ok (.idiv, 1) := by decide +kernel
theorem dX7_wrong_12 : decode cX7_wrong 12 = .ok (.iload_n 1, 1) := by decide +kernel
theorem dX7_wrong_13 : decode cX7_wrong 13 = .ok (.bipush 10, 2) := by decide +kernel
theorem dX7_wrong_15 : decode cX7_wrong 15 = .ok (.irem, 1) := by decide +kernel
theorem dX7_wrong_16 : decode cX7_wrong 16 = .ok (.iload_n 2, 1) := by decide +kernel
theorem dX7_wrong_17 : decode cX7_wrong 17 = .ok (.invokevirtual 96, 3) := by decide +kernel
theorem dX7_wrong_20 : decode cX7_wrong 20 = .ok (.ifCond .ne 5, 3) := by decide +kernel
theorem dX7_wrong_23 : decode cX7_wrong 23 = .ok (.iconst (-1), 1) := by decide +kernel
theorem dX7_wrong_24 : decode cX7_wrong 24 = .ok (.ireturn, 1) := by decide +kernel
theorem dX7_wrong_25 : decode cX7_wrong 25 = .ok (.aload_n 0, 1) := by decide +kernel
theorem dX7_wrong_26 : decode cX7_wrong 26 = .ok (.getfield 10, 3) := by decide +kernel
theorem dX7_wrong_29 : decode cX7_wrong 29 = .ok (.getfield 100, 3) := by decide +kernel
theorem dX7_wrong_32 : decode cX7_wrong 32 = .ok (.bipush 12, 2) := by decide +kernel
theorem dX7_wrong_34 : decode cX7_wrong 34 = .ok (.if_icmp .ne 6, 3) := by decide +kernel
theorem dX7_wrong_37 : decode cX7_wrong 37 = .ok (.bipush (-3), 2) := by decide +kernel
theorem dX7_wrong_39 : decode cX7_wrong 39 = .ok (.ireturn, 1) := by decide +kernel
theorem dX7_wrong_40 : decode cX7_wrong 40 = .ok (.aload_n 0, 1) := by decide +kernel
theorem dX7_wrong_41 : decode cX7_wrong 41 = .ok (.iload_n 1, 1) := by decide +kernel
theorem dX7_wrong_42 : decode cX7_wrong 42 = .ok (.bipush 10, 2) := by decide +kernel
theorem dX7_wrong_44 : decode cX7_wrong 44 = .ok (.idiv, 1) := by decide +kernel
theorem dX7_wrong_45 : decode cX7_wrong 45 = .ok (.iload_n 1, 1) := by decide +kernel
theorem dX7_wrong_46 : decode cX7_wrong 46 = .ok (.bipush 10, 2) := by decide +kernel
theorem dX7_wrong_48 : decode cX7_wrong 48 = .ok (.irem, 1) := by decide +kernel
theorem dX7_wrong_49 : decode cX7_wrong 49 = .ok (.iload_n 2, 1) := by decide +kernel
theorem dX7_wrong_50 : decode cX7_wrong 50 = .ok (.invokevirtual 103, 3) := by decide +kernel
theorem dX7_wrong_53 : decode cX7_wrong 53 = .ok (.ireturn, 1) := by decide +kernel
theorem dX7_wrongs_0 : decode cX7_wrongs 0 = .ok (.aload_n 0, 1) := by decide +kernel
theorem dX7_wrongs_1 : decode cX7_wrongs 1 = .ok (.getfield 54, 3) := by decide +kernel
theorem dX7_wrongs_4 : decode cX7_wrongs 4 = .ok (.iload_n 1, 1) := by decide +kernel
theorem dX7_wrongs_5 : decode cX7_wrongs 5 = .ok (.invokevirtual 107, 3) := by decide +kernel
theorem dX7_wrongs_8 : decode cX7_wrongs 8 = .ok (.ifCond .eq 14, 3) := by decide +kernel
theorem dX7_wrongs_11 : decode cX7_wrongs 11 = .ok (.iload_n 3, 1) := by decide +kernel
theorem dX7_wrongs_12 : decode cX7_wrongs 12 = .ok (.iconst 1, 1) := by decide +kernel
theorem dX7_wrongs_13 : decode cX7_wrongs 13 = .ok (.if_icmp .lt 9, 3) := by decide +kernel
theorem dX7_wrongs_16 : decode cX7_wrongs 16 = .ok (.iload_n 3, 1) := by decide +kernel
theorem dX7_wrongs_17 : decode cX7_wrongs 17 = .ok (.bipush 12, 2) := by decide +kernel
theorem dX7_wrongs_19 : decode cX7_wrongs 19 = .ok (.if_icmp .le 5, 3) := by decide +kernel
theorem dX7_wrongs_22 : decode cX7_wrongs 22 = .ok (.iconst (-1), 1) := by decide +kernel
theorem dX7_wrongs_23 : decode cX7_wrongs 23 = .ok (.ireturn, 1) := by decide +kernel
theorem dX7_wrongs_24 : decode cX7_wrongs 24 = .ok (.aload_n 0, 1) := by decide +kernel
theorem dX7_wrongs_25 : decode cX7_wrongs 25 = .ok (.getfield 54, 3) := by decide +kernel
theorem dX7_wrongs_28 : decode cX7_wrongs 28 = .ok (.iload_n 1, 1) := by decide +kernel
theorem dX7_wrongs_29 : decode cX7_wrongs 29 = .ok (.invokevirtual 110, 3) := by decide +kernel
theorem dX7_wrongs_32 : decode cX7_wrongs 32 = .ok (.ifCond .eq 5, 3) := by decide +kernel
theorem dX7_wrongs_35 : decode cX7_wrongs 35 = .ok (.iconst 0, 1) := by decide +kernel
theorem dX7_wrongs_36 : decode cX7_wrongs 36 = .ok (.ireturn, 1) := by decide +kernel
theorem dX7_wrongs_37 : decode cX7_wrongs 37 = .ok (.aload_n 0, 1) := by decide +kernel
theorem dX7_wrongs_38 : decode cX7_wrongs 38 = .ok (.getfield 54, 3) := by decide +kernel
theorem dX7_wrongs_41 : decode cX7_wrongs 41 = .ok (.iload_n 1, 1) := by decide +kernel
theorem dX7_wrongs_42 : decode cX7_wrongs 42 = .ok (.iconst 0, 1) := by decide +kernel
theorem dX7_wrongs_43 : decode cX7_wrongs 43 = .ok (.invokevirtual 113, 3) := by decide +kernel
theorem dX7_wrongs_46 : decode cX7_wrongs 46 = .ok (.ifCond .ne 6, 3) := by decide +kernel
theorem dX7_wrongs_49 : decode cX7_wrongs 49 = .ok (.bipush (-12), 2) := by decide +kernel
theorem dX7_wrongs_51 : decode cX7_wrongs 51 = .ok (.ireturn, 1) := by decide +kernel
theorem dX7_wrongs_52 : decode cX7_wrongs 52 = .ok (.iconst 0, 1) := by decide +kernel
theorem dX7_wrongs_53 : decode cX7_wrongs 53 = .ok (.istore 4, 2) := by decide +kernel
theorem dX7_wrongs_55 : decode cX7_wrongs 55 = .ok (.iload_n 2, 1) := by decide +kernel
theorem dX7_wrongs_56 : decode cX7_wrongs 56 = .ok (.istore 5, 2) := by decide +kernel
theorem dX7_wrongs_58 : decode cX7_wrongs 58 = .ok (.iconst 0, 1) := by decide +kernel
theorem dX7_wrongs_59 : decode cX7_wrongs 59 = .ok (.istore 6, 2) := by decide +kernel
theorem dX7_wrongs_61 : decode cX7_wrongs 61 = .ok (.iload 6, 2) := by decide +kernel
theorem dX7_wrongs_63 : decode cX7_wrongs 63 = .ok (.iload_n 3, 1) := by decide +kernel
theorem dX7_wrongs_64 : decode cX7_wrongs 64 = .ok (.if_icmp .ge 117, 3) := by decide +kernel
theorem dX7_wrongs_67 : decode cX7_wrongs 67 = .ok (.aload_n 0, 1) := by decide +kernel
theorem dX7_wrongs_68 : decode cX7_wrongs 68 = .ok (.getfield 54, 3) := by decide +kernel
theorem dX7_wrongs_71 : decode cX7_wrongs 71 = .ok (.iload_n 1, 1) := by decide +kernel
theorem dX7_wrongs_72 : decode cX7_wrongs 72 = .ok (.iload 5, 2) := by decide +kernel
theorem dX7_wrongs_74 : decode cX7_wrongs 74 = .ok (.iconst 3, 1) := by decide +kernel
theorem dX7_wrongs_75 : decode cX7_wrongs 75 = .ok (.invokevirtual 117, 3) := by decide +kernel
theorem dX7_wrongs_78 : decode cX7_wrongs 78 = .ok (.ifCond .eq 15, 3) := by decide +kernel
theorem dX7_wrongs_81 : decode cX7_wrongs 81 = .ok (.aload_n 0, 1) := by decide +kernel
theorem dX7_wrongs_82 : decode cX7_wrongs 82 = .ok (.getfield 10, 3) := by decide +kernel
theorem dX7_wrongs_85 : decode cX7_wrongs 85 = .ok (.getfield 100, 3) := by decide +kernel
theorem dX7_wrongs_88 : decode cX7_wrongs 88 = .ok (.bipush 12, 2) := by decide +kernel
theorem dX7_wrongs_90 : decode cX7_wrongs 90 = .ok (.if_icmp .ne 6, 3) := by decide +kernel
theorem dX7_wrongs_93 : decode cX7_wrongs 93 = .ok (.iload 4, 2) := by decide +kernel
theorem dX7_wrongs_95 : decode cX7_wrongs 95 = .ok (.ireturn, 1) := by decide +kernel
theorem dX7_wrongs_96 : decode cX7_wrongs 96 = .ok (.aload_n 0, 1) := by decide +kernel
theorem dX7_wrongs_97 : decode cX7_wrongs 97 = .ok (.getfield 54, 3) := by decide +kernel
theorem dX7_wrongs_100 : decode cX7_wrongs 100 = .ok (.iload_n 1, 1) := by decide +kernel
theorem dX7_wrongs_101 : decode cX7_wrongs 101 = .ok (.iload 5, 2) := by decide +kernel
theorem dX7_wrongs_103 : decode cX7_wrongs 103 = .ok (.invokevirtual 120, 3) := by decide +kernel
theorem dX7_wrongs_106 : decode cX7_wrongs 106 = .ok (.l2i, 1) := by decide +kernel
theorem dX7_wrongs_107 : decode cX7_wrongs 107 = .ok (.istore 7, 2) := by decide +kernel
theorem dX7_wrongs_109 : decode cX7_wrongs 109 = .ok (.aload_n 0, 1) := by decide +kernel
theorem dX7_wrongs_110 : decode cX7_wrongs 110 = .ok (.getfield 54, 3) := by decide +kernel
theorem dX7_wrongs_113 : decode cX7_wrongs 113 = .ok (.iload_n 1, 1) := by decide +kernel
theorem dX7_wrongs_114 : decode cX7_wrongs 114 = .ok (.iload 5, 2) := by decide +kernel
theorem dX7_wrongs_116 : decode cX7_wrongs 116 = .ok (.iconst 1, 1) := by decide +kernel
theorem dX7_wrongs_117 : decode cX7_wrongs 117 = .ok (.iadd, 1) := by decide +kernel
theorem dX7_wrongs_118 : decode cX7_wrongs 118 = .ok (.invokevirtual 120, 3) := by decide +kernel
theorem dX7_wrongs_121 : decode cX7_wrongs 121 = .ok (.l2i, 1) := by decide +kernel
theorem dX7_wrongs_122 : decode cX7_wrongs 122 = .ok (.istore 8, 2) := by decide +kernel
theorem dX7_wrongs_124 : decode cX7_wrongs 124 = .ok (.aload_n 0, 1) := by decide +kernel
theorem dX7_wrongs_125 : decode cX7_wrongs 125 = .ok (.getfield 54, 3) := by decide +kernel
theorem dX7_wrongs_128 : decode cX7_wrongs 128 = .ok (.iload_n 1, 1) := by decide +kernel
theorem dX7_wrongs_129 : decode cX7_wrongs 129 = .ok (.iload 5, 2) := by decide +kernel
theorem dX7_wrongs_131 : decode cX7_wrongs 131 = .ok (.iconst 2, 1) := by decide +kernel
theorem dX7_wrongs_132 : decode cX7_wrongs 132 = .ok (.iadd, 1) := by decide +kernel
theorem dX7_wrongs_133 : decode cX7_wrongs 133 = .ok (.invokevirtual 120, 3) := by decide +kernel
theorem dX7_wrongs_136 : decode cX7_wrongs 136 = .ok (.l2i, 1) := by decide +kernel
theorem dX7_wrongs_137 : decode cX7_wrongs 137 = .ok (.istore 9, 2) := by decide +kernel
theorem dX7_wrongs_139 : decode cX7_wrongs 139 = .ok (.aload_n 0, 1) := by decide +kernel
theorem dX7_wrongs_140 : decode cX7_wrongs 140 = .ok (.getfield 10, 3) := by decide +kernel
theorem dX7_wrongs_143 : decode cX7_wrongs 143 = .ok (.iload 7, 2) := by decide +kernel
theorem dX7_wrongs_145 : decode cX7_wrongs 145 = .ok (.iload 8, 2) := by decide +kernel
theorem dX7_wrongs_147 : decode cX7_wrongs 147 = .ok (.iload 9, 2) := by decide +kernel
theorem dX7_wrongs_149 : decode cX7_wrongs 149 = .ok (.invokevirtual 96, 3) := by decide +kernel
theorem dX7_wrongs_152 : decode cX7_wrongs 152 = .ok (.ifCond .ne 6, 3) := by decide +kernel
theorem dX7_wrongs_155 : decode cX7_wrongs 155 = .ok (.iload 4, 2) := by decide +kernel
theorem dX7_wrongs_157 : decode cX7_wrongs 157 = .ok (.ireturn, 1) := by decide +kernel
theorem dX7_wrongs_158 : decode cX7_wrongs 158 = .ok (.aload_n 0, 1) := by decide +kernel
theorem dX7_wrongs_159 : decode cX7_wrongs 159 = .ok (.iload 7, 2) := by decide +kernel
theorem dX7_wrongs_161 : decode cX7_wrongs 161 = .ok (.iload 8, 2) := by decide +kernel
theorem dX7_wrongs_163 : decode cX7_wrongs 163 = .ok (.iload 9, 2) := by decide +kernel
theorem dX7_wrongs_165 : decode cX7_wrongs 165 = .ok (.invokevirtual 103, 3) := by decide +kernel
theorem dX7_wrongs_168 : decode cX7_wrongs 168 = .ok (.pop, 1) := by decide +kernel
theorem dX7_wrongs_169 : decode cX7_wrongs 169 = .ok (.iinc 4 1, 3) := by decide +kernel
theorem dX7_wrongs_172 : decode cX7_wrongs 172 = .ok (.iinc 5 3, 3) := by decide +kernel
theorem dX7_wrongs_175 : decode cX7_wrongs 175 = .ok (.iinc 6 1, 3) := by decide +kernel
theorem dX7_wrongs_178 : decode cX7_wrongs 178 = .ok (.goto (-117), 3) := by decide +kernel
theorem dX7_wrongs_181 : decode cX7_wrongs 181 = .ok (.iload 4, 2) := by decide +kernel
theorem dX7_wrongs_183 : decode cX7_wrongs 183 = .ok (.ireturn, 1) := by decide +kernel
theorem dX7_mend_0 : decode cX7_mend 0 = .ok (.iload_n 2, 1) := by decide +kernel
theorem dX7_mend_1 : decode cX7_mend 1 = .ok (.ifCond .lt 18, 3) := by decide +kernel
theorem dX7_mend_4 : decode cX7_mend 4 = .ok (.iload_n 2, 1) := by decide +kernel
theorem dX7_mend_5 : decode cX7_mend 5 = .ok (.bipush 6, 2) := by decide +kernel
theorem dX7_mend_7 : decode cX7_mend 7 = .ok (.if_icmp .gt 12, 3) := by decide +kernel
theorem dX7_mend_10 : decode cX7_mend 10 = .ok (.aload_n 0, 1) := by decide +kernel
theorem dX7_mend_11 : decode cX7_mend 11 = .ok (.iload_n 1, 1) := by decide +kernel
theorem dX7_mend_12 : decode cX7_mend 12 = .ok (.iload_n 2, 1) := by decide +kernel
theorem dX7_mend_13 : decode cX7_mend 13 = .ok (.invokevirtual 124, 3) := by decide +kernel
theorem dX7_mend_16 : decode cX7_mend 16 = .ok (.ifCond .ne 6, 3) := by decide +kernel
theorem dX7_mend_19 : decode cX7_mend 19 = .ok (.ldc 127, 2) := by decide +kernel
theorem dX7_mend_21 : decode cX7_mend 21 = .ok (.ireturn, 1) := by decide +kernel
theorem dX7_mend_22 : decode cX7_mend 22 = .ok (.iload_n 3, 1) := by decide +kernel
theorem dX7_mend_23 : decode cX7_mend 23 = .ok (.getstatic 128, 3) := by decide +kernel
theorem dX7_mend_26 : decode cX7_mend 26 = .ok (.iload_n 2, 1) := by decide +kernel
theorem dX7_mend_27 : decode cX7_mend 27 = .ok (.iaload, 1) := by decide +kernel
theorem dX7_mend_28 : decode cX7_mend 28 = .ok (.if_icmp .lt 12, 3) := by decide +kernel
theorem dX7_mend_31 : decode cX7_mend 31 = .ok (.iload_n 3, 1) := by decide +kernel
theorem dX7_mend_32 : decode cX7_mend 32 = .ok (.getstatic 131, 3) := by decide +kernel
theorem dX7_mend_35 : decode cX7_mend 35 = .ok (.iload_n 2, 1) := by decide +kernel
theorem dX7_mend_36 : decode cX7_mend 36 = .ok (.iaload, 1) := by decide +kernel
theorem dX7_mend_37 : decode cX7_mend 37 = .ok (.if_icmp .le 6, 3) := by decide +kernel
theorem dX7_mend_40 : decode cX7_mend 40 = .ok (.ldc 127, 2) := by decide +kernel
theorem dX7_mend_42 : decode cX7_mend 42 = .ok (.ireturn, 1) := by decide +kernel
theorem dX7_mend_43 : decode cX7_mend 43 = .ok (.aload_n 0, 1) := by decide +kernel
theorem dX7_mend_44 : decode cX7_mend 44 = .ok (.iload_n 1, 1) := by decide +kernel
theorem dX7_mend_45 : decode cX7_mend 45 = .ok (.iload_n 2, 1) := by decide +kernel
theorem dX7_mend_46 : decode cX7_mend 46 = .ok (.invokevirtual 134, 3) := by decide +kernel
theorem dX7_mend_49 : decode cX7_mend 49 = .ok (.istore 4, 2) := by decide +kernel
theorem dX7_mend_51 : decode cX7_mend 51 = .ok (.iload 4, 2) := by decide +kernel
theorem dX7_mend_53 : decode cX7_mend 53 = .ok (.iload_n 3, 1) := by decide +kernel
theorem dX7_mend_54 : decode cX7_mend 54 = .ok (.if_icmp .eq 22, 3) := by decide +kernel
theorem dX7_mend_57 : decode cX7_mend 57 = .ok (.aload_n 0, 1) := by decide +kernel
theorem dX7_mend_58 : decode cX7_mend 58 = .ok (.iload_n 1, 1) := by decide +kernel
theorem dX7_mend_59 : decode cX7_mend 59 = .ok (.iload_n 2, 1) := by decide +kernel
theorem dX7_mend_60 : decode cX7_mend 60 = .ok (.iload_n 3, 1) := by decide +kernel
theorem dX7_mend_61 : decode cX7_mend 61 = .ok (.invokevirtual 138, 3) := by decide +kernel
theorem dX7_mend_64 : decode cX7_mend 64 = .ok (.aload_n 0, 1) := by decide +kernel
theorem dX7_mend_65 : decode cX7_mend 65 = .ok (.getfield 47, 3) := by decide +kernel
theorem dX7_mend_68 : decode cX7_mend 68 = .ok (.iload_n 1, 1) := by decide +kernel
theorem dX7_mend_69 : decode cX7_mend 69 = .ok (.iload_n 2, 1) := by decide +kernel
theorem dX7_mend_70 : decode cX7_mend 70 = .ok (.iload 4, 2) := by decide +kernel
theorem dX7_mend_72 : decode cX7_mend 72 = .ok (.iload_n 3, 1) := by decide +kernel
theorem dX7_mend_73 : decode cX7_mend 73 = .ok (.invokevirtual 142, 3) := by decide +kernel
theorem dX7_mend_76 : decode cX7_mend 76 = .ok (.iload 4, 2) := by decide +kernel
theorem dX7_mend_78 : decode cX7_mend 78 = .ok (.ireturn, 1) := by decide +kernel
theorem dX7_of_0 : decode cX7_of 0 = .ok (.aload_n 0, 1) := by decide +kernel
theorem dX7_of_1 : decode cX7_of 1 = .ok (.iload_n 1, 1) := by decide +kernel
theorem dX7_of_2 : decode cX7_of 2 = .ok (.iload_n 2, 1) := by decide +kernel
theorem dX7_of_3 : decode cX7_of 3 = .ok (.invokevirtual 124, 3) := by decide +kernel
theorem dX7_of_6 : decode cX7_of 6 = .ok (.ifCond .ne 6, 3) := by decide +kernel
theorem dX7_of_9 : decode cX7_of 9 = .ok (.ldc 127, 2) := by decide +kernel
theorem dX7_of_11 : decode cX7_of 11 = .ok (.ireturn, 1) := by decide +kernel
theorem dX7_of_12 : decode cX7_of 12 = .ok (.aload_n 0, 1) := by decide +kernel
theorem dX7_of_13 : decode cX7_of 13 = .ok (.iload_n 1, 1) := by decide +kernel
theorem dX7_of_14 : decode cX7_of 14 = .ok (.iload_n 2, 1) := by decide +kernel
theorem dX7_of_15 : decode cX7_of 15 = .ok (.invokevirtual 134, 3) := by decide +kernel
theorem dX7_of_18 : decode cX7_of 18 = .ok (.ireturn, 1) := by decide +kernel
theorem dX7_feed_0 : decode cX7_feed 0 = .ok (.iload_n 1, 1) := by decide +kernel
theorem dX7_feed_1 : decode cX7_feed 1 = .ok (.ifCond .lt 10, 3) := by decide +kernel
theorem dX7_feed_4 : decode cX7_feed 4 = .ok (.iload_n 1, 1) := by decide +kernel
theorem dX7_feed_5 : decode cX7_feed 5 = .ok (.sipush 255, 3) := by decide +kernel
theorem dX7_feed_8 : decode cX7_feed 8 = .ok (.if_icmp .le 5, 3) := by decide +kernel
theorem dX7_feed_11 : decode cX7_feed 11 = .ok (.iconst (-1), 1) := by decide +kernel
theorem dX7_feed_12 : decode cX7_feed 12 = .ok (.ireturn, 1) := by decide +kernel
theorem dX7_feed_13 : decode cX7_feed 13 = .ok (.aload_n 0, 1) := by decide +kernel
theorem dX7_feed_14 : decode cX7_feed 14 = .ok (.getfield 19, 3) := by decide +kernel
theorem dX7_feed_17 : decode cX7_feed 17 = .ok (.iload_n 1, 1) := by decide +kernel
theorem dX7_feed_18 : decode cX7_feed 18 = .ok (.invokevirtual 146, 3) := by decide +kernel
theorem dX7_feed_21 : decode cX7_feed 21 = .ok (.ireturn, 1) := by decide +kernel
theorem dX7_law_0 : decode cX7_law 0 = .ok (.aload_n 0, 1) := by decide +kernel
theorem dX7_law_1 : decode cX7_law 1 = .ok (.getfield 19, 3) := by decide +kernel
theorem dX7_law_4 : decode cX7_law 4 = .ok (.invokevirtual 149, 3) := by decide +kernel
theorem dX7_law_7 : decode cX7_law 7 = .ok (.ireturn, 1) := by decide +kernel
theorem dX7_counts_0 : decode cX7_counts 0 = .ok (.aload_n 0, 1) := by decide +kernel
theorem dX7_counts_1 : decode cX7_counts 1 = .ok (.getfield 10, 3) := by decide +kernel
theorem dX7_counts_4 : decode cX7_counts 4 = .ok (.iload_n 1, 1) := by decide +kernel
theorem dX7_counts_5 : decode cX7_counts 5 = .ok (.invokevirtual 153, 3) := by decide +kernel
theorem dX7_counts_8 : decode cX7_counts 8 = .ok (.ifCond .eq 10, 3) := by decide +kernel
theorem dX7_counts_11 : decode cX7_counts 11 = .ok (.iload_n 2, 1) := by decide +kernel
theorem dX7_counts_12 : decode cX7_counts 12 = .ok (.invokestatic 85, 3) := by decide +kernel
theorem dX7_counts_15 : decode cX7_counts 15 = .ok (.ifCond .ne 5, 3) := by decide +kernel
theorem dX7_counts_18 : decode cX7_counts 18 = .ok (.iconst (-1), 1) := by decide +kernel
theorem dX7_counts_19 : decode cX7_counts 19 = .ok (.ireturn, 1) := by decide +kernel
theorem dX7_counts_20 : decode cX7_counts 20 = .ok (.aload_n 0, 1) := by decide +kernel
theorem dX7_counts_21 : decode cX7_counts 21 = .ok (.aload_n 0, 1) := by decide +kernel
theorem dX7_counts_22 : decode cX7_counts 22 = .ok (.getfield 26, 3) := by decide +kernel
theorem dX7_counts_25 : decode cX7_counts 25 = .ok (.iload_n 1, 1) := by decide +kernel
theorem dX7_counts_26 : decode cX7_counts 26 = .ok (.iload_n 2, 1) := by decide +kernel
theorem dX7_counts_27 : decode cX7_counts 27 = .ok (.invokevirtual 156, 3) := by decide +kernel
theorem dX7_counts_30 : decode cX7_counts 30 = .ok (.ireturn, 1) := by decide +kernel
theorem dX7_later_0 : decode cX7_later 0 = .ok (.aload_n 0, 1) := by decide +kernel
theorem dX7_later_1 : decode cX7_later 1 = .ok (.getfield 54, 3) := by decide +kernel
theorem dX7_later_4 : decode cX7_later 4 = .ok (.iload_n 1, 1) := by decide +kernel
theorem dX7_later_5 : decode cX7_later 5 = .ok (.invokevirtual 107, 3) := by decide +kernel
theorem dX7_later_8 : decode cX7_later 8 = .ok (.ifCond .eq 17, 3) := by decide +kernel
theorem dX7_later_11 : decode cX7_later 11 = .ok (.iload_n 2, 1) := by decide +kernel
theorem dX7_later_12 : decode cX7_later 12 = .ok (.invokestatic 160, 3) := by decide +kernel
theorem dX7_later_15 : decode cX7_later 15 = .ok (.ifCond .eq 10, 3) := by decide +kernel
theorem dX7_later_18 : decode cX7_later 18 = .ok (.iload_n 3, 1) := by decide +kernel
theorem dX7_later_19 : decode cX7_later 19 = .ok (.invokestatic 85, 3) := by decide +kernel
theorem dX7_later_22 : decode cX7_later 22 = .ok (.ifCond .ne 5, 3) := by decide +kernel
theorem dX7_later_25 : decode cX7_later 25 = .ok (.iconst (-1), 1) := by decide +kernel
theorem dX7_later_26 : decode cX7_later 26 = .ok (.ireturn, 1) := by decide +kernel
theorem dX7_later_27 : decode cX7_later 27 = .ok (.aload_n 0, 1) := by decide +kernel
theorem dX7_later_28 : decode cX7_later 28 = .ok (.getfield 54, 3) := by decide +kernel
theorem dX7_later_31 : decode cX7_later 31 = .ok (.iload_n 1, 1) := by decide +kernel
theorem dX7_later_32 : decode cX7_later 32 = .ok (.iconst 1, 1) := by decide +kernel
theorem dX7_later_33 : decode cX7_later 33 = .ok (.invokevirtual 163, 3) := by decide +kernel
theorem dX7_later_36 : decode cX7_later 36 = .ok (.istore 4, 2) := by decide +kernel
theorem dX7_later_38 : decode cX7_later 38 = .ok (.iload 4, 2) := by decide +kernel
theorem dX7_later_40 : decode cX7_later 40 = .ok (.ifCond .eq 6, 3) := by decide +kernel
theorem dX7_later_43 : decode cX7_later 43 = .ok (.iload 4, 2) := by decide +kernel
theorem dX7_later_45 : decode cX7_later 45 = .ok (.ireturn, 1) := by decide +kernel
theorem dX7_later_46 : decode cX7_later 46 = .ok (.aload_n 0, 1) := by decide +kernel
theorem dX7_later_47 : decode cX7_later 47 = .ok (.iload_n 1, 1) := by decide +kernel
theorem dX7_later_48 : decode cX7_later 48 = .ok (.iload_n 2, 1) := by decide +kernel
theorem dX7_later_49 : decode cX7_later 49 = .ok (.invokevirtual 166, 3) := by decide +kernel
theorem dX7_later_52 : decode cX7_later 52 = .ok (.pop, 1) := by decide +kernel
theorem dX7_later_53 : decode cX7_later 53 = .ok (.aload_n 0, 1) := by decide +kernel
theorem dX7_later_54 : decode cX7_later 54 = .ok (.getfield 30, 3) := by decide +kernel
theorem dX7_later_57 : decode cX7_later 57 = .ok (.getfield 169, 3) := by decide +kernel
theorem dX7_later_60 : decode cX7_later 60 = .ok (.iload_n 3, 1) := by decide +kernel
theorem dX7_later_61 : decode cX7_later 61 = .ok (.iaload, 1) := by decide +kernel
theorem dX7_later_62 : decode cX7_later 62 = .ok (.ireturn, 1) := by decide +kernel
theorem dX7_street_0 : decode cX7_street 0 = .ok (.aload_n 0, 1) := by decide +kernel
theorem dX7_street_1 : decode cX7_street 1 = .ok (.getfield 54, 3) := by decide +kernel
theorem dX7_street_4 : decode cX7_street 4 = .ok (.iload_n 1, 1) := by decide +kernel
theorem dX7_street_5 : decode cX7_street 5 = .ok (.invokevirtual 107, 3) := by decide +kernel
theorem dX7_street_8 : decode cX7_street 8 = .ok (.ifCond .eq 19, 3) := by decide +kernel
theorem dX7_street_11 : decode cX7_street 11 = .ok (.iload_n 2, 1) := by decide +kernel
theorem dX7_street_12 : decode cX7_street 12 = .ok (.invokestatic 160, 3) := by decide +kernel
theorem dX7_street_15 : decode cX7_street 15 = .ok (.ifCond .eq 12, 3) := by decide +kernel
theorem dX7_street_18 : decode cX7_street 18 = .ok (.iload_n 3, 1) := by decide +kernel
theorem dX7_street_19 : decode cX7_street 19 = .ok (.ifCond .lt 8, 3) := by decide +kernel
theorem dX7_street_22 : decode cX7_street 22 = .ok (.iload_n 3, 1) := by decide +kernel
theorem dX7_street_23 : decode cX7_street 23 = .ok (.iconst 3, 1) := by decide +kernel
theorem dX7_street_24 : decode cX7_street 24 = .ok (.if_icmp .le 5, 3) := by decide +kernel
theorem dX7_street_27 : decode cX7_street 27 = .ok (.iconst (-1), 1) := by decide +kernel
theorem dX7_street_28 : decode cX7_street 28 = .ok (.ireturn, 1) := by decide +kernel
theorem dX7_street_29 : decode cX7_street 29 = .ok (.aload_n 0, 1) := by decide +kernel
theorem dX7_street_30 : decode cX7_street 30 = .ok (.getfield 54, 3) := by decide +kernel
theorem dX7_street_33 : decode cX7_street 33 = .ok (.iload_n 1, 1) := by decide +kernel
theorem dX7_street_34 : decode cX7_street 34 = .ok (.iconst 1, 1) := by decide +kernel
theorem dX7_street_35 : decode cX7_street 35 = .ok (.invokevirtual 163, 3) := by decide +kernel
theorem dX7_street_38 : decode cX7_street 38 = .ok (.istore 4, 2) := by decide +kernel
theorem dX7_street_40 : decode cX7_street 40 = .ok (.iload 4, 2) := by decide +kernel
theorem dX7_street_42 : decode cX7_street 42 = .ok (.ifCond .eq 6, 3) := by decide +kernel
theorem dX7_street_45 : decode cX7_street 45 = .ok (.iload 4, 2) := by decide +kernel
theorem dX7_street_47 : decode cX7_street 47 = .ok (.ireturn, 1) := by decide +kernel
theorem dX7_street_48 : decode cX7_street 48 = .ok (.aload_n 0, 1) := by decide +kernel
theorem dX7_street_49 : decode cX7_street 49 = .ok (.iload_n 1, 1) := by decide +kernel
theorem dX7_street_50 : decode cX7_street 50 = .ok (.iload_n 2, 1) := by decide +kernel
theorem dX7_street_51 : decode cX7_street 51 = .ok (.invokevirtual 166, 3) := by decide +kernel
theorem dX7_street_54 : decode cX7_street 54 = .ok (.istore 5, 2) := by decide +kernel
theorem dX7_street_56 : decode cX7_street 56 = .ok (.iload_n 3, 1) := by decide +kernel
theorem dX7_street_57 : decode cX7_street 57 = .ok (.tableswitch 46 0 2 #[27, 35, 43], 27) := by decide +kernel
theorem dX7_street_84 : decode cX7_street 84 = .ok (.aload_n 0, 1) := by decide +kernel
theorem dX7_street_85 : decode cX7_street 85 = .ok (.getfield 30, 3) := by decide +kernel
theorem dX7_street_88 : decode cX7_street 88 = .ok (.getfield 172, 3) := by decide +kernel
theorem dX7_street_91 : decode cX7_street 91 = .ok (.ireturn, 1) := by decide +kernel
theorem dX7_street_92 : decode cX7_street 92 = .ok (.aload_n 0, 1) := by decide +kernel
theorem dX7_street_93 : decode cX7_street 93 = .ok (.getfield 30, 3) := by decide +kernel
theorem dX7_street_96 : decode cX7_street 96 = .ok (.invokevirtual 175, 3) := by decide +kernel
theorem dX7_street_99 : decode cX7_street 99 = .ok (.ireturn, 1) := by decide +kernel
theorem dX7_street_100 : decode cX7_street 100 = .ok (.iload 5, 2) := by decide +kernel
theorem dX7_street_102 : decode cX7_street 102 = .ok (.ireturn, 1) := by decide +kernel
theorem dX7_street_103 : decode cX7_street 103 = .ok (.aload_n 0, 1) := by decide +kernel
theorem dX7_street_104 : decode cX7_street 104 = .ok (.getfield 30, 3) := by decide +kernel
theorem dX7_street_107 : decode cX7_street 107 = .ok (.invokevirtual 178, 3) := by decide +kernel
theorem dX7_street_110 : decode cX7_street 110 = .ok (.ireturn, 1) := by decide +kernel
theorem dX7_run_0 : decode cX7_run 0 = .ok (.iload_n 1, 1) := by decide +kernel
theorem dX7_run_1 : decode cX7_run 1 = .ok (.ifCond .lt 8, 3) := by decide +kernel
theorem dX7_run_4 : decode cX7_run 4 = .ok (.iload_n 1, 1) := by decide +kernel
theorem dX7_run_5 : decode cX7_run 5 = .ok (.iconst 1, 1) := by decide +kernel
theorem dX7_run_6 : decode cX7_run 6 = .ok (.if_icmp .le 5, 3) := by decide +kernel
theorem dX7_run_9 : decode cX7_run 9 = .ok (.iconst (-1), 1) := by decide +kernel
theorem dX7_run_10 : decode cX7_run 10 = .ok (.ireturn, 1) := by decide +kernel
theorem dX7_run_11 : decode cX7_run 11 = .ok (.aload_n 0, 1) := by decide +kernel
theorem dX7_run_12 : decode cX7_run 12 = .ok (.invokevirtual 181, 3) := by decide +kernel
theorem dX7_run_15 : decode cX7_run 15 = .ok (.istore_n 2, 1) := by decide +kernel
theorem dX7_run_16 : decode cX7_run 16 = .ok (.iload_n 1, 1) := by decide +kernel
theorem dX7_run_17 : decode cX7_run 17 = .ok (.ifCond .ne 12, 3) := by decide +kernel
theorem dX7_run_20 : decode cX7_run 20 = .ok (.aload_n 0, 1) := by decide +kernel
theorem dX7_run_21 : decode cX7_run 21 = .ok (.getfield 76, 3) := by decide +kernel
theorem dX7_run_24 : decode cX7_run 24 = .ok (.iload_n 2, 1) := by decide +kernel
theorem dX7_run_25 : decode cX7_run 25 = .ok (.iaload, 1) := by decide +kernel
theorem dX7_run_26 : decode cX7_run 26 = .ok (.goto 9, 3) := by decide +kernel
theorem dX7_run_29 : decode cX7_run 29 = .ok (.aload_n 0, 1) := by decide +kernel
theorem dX7_run_30 : decode cX7_run 30 = .ok (.getfield 79, 3) := by decide +kernel
theorem dX7_run_33 : decode cX7_run 33 = .ok (.iload_n 2, 1) := by decide +kernel
theorem dX7_run_34 : decode cX7_run 34 = .ok (.iaload, 1) := by decide +kernel
theorem dX7_run_35 : decode cX7_run 35 = .ok (.ireturn, 1) := by decide +kernel
theorem dX7_fewest_0 : decode cX7_fewest 0 = .ok (.iload_n 1, 1) := by decide +kernel
theorem dX7_fewest_1 : decode cX7_fewest 1 = .ok (.iconst (-1), 1) := by decide +kernel
theorem dX7_fewest_2 : decode cX7_fewest 2 = .ok (.if_icmp .ge 5, 3) := by decide +kernel
theorem dX7_fewest_5 : decode cX7_fewest 5 = .ok (.iconst (-1), 1) := by decide +kernel
theorem dX7_fewest_6 : decode cX7_fewest 6 = .ok (.ireturn, 1) := by decide +kernel
theorem dX7_fewest_7 : decode cX7_fewest 7 = .ok (.aload_n 0, 1) := by decide +kernel
theorem dX7_fewest_8 : decode cX7_fewest 8 = .ok (.invokevirtual 184, 3) := by decide +kernel
theorem dX7_fewest_11 : decode cX7_fewest 11 = .ok (.istore_n 2, 1) := by decide +kernel
theorem dX7_fewest_12 : decode cX7_fewest 12 = .ok (.iload_n 2, 1) := by decide +kernel
theorem dX7_fewest_13 : decode cX7_fewest 13 = .ok (.bipush (-2), 2) := by decide +kernel
theorem dX7_fewest_15 : decode cX7_fewest 15 = .ok (.if_icmp .eq 8, 3) := by decide +kernel
theorem dX7_fewest_18 : decode cX7_fewest 18 = .ok (.iload_n 1, 1) := by decide +kernel
theorem dX7_fewest_19 : decode cX7_fewest 19 = .ok (.iconst (-1), 1) := by decide +kernel
theorem dX7_fewest_20 : decode cX7_fewest 20 = .ok (.if_icmp .ne 5, 3) := by decide +kernel
theorem dX7_fewest_23 : decode cX7_fewest 23 = .ok (.iload_n 2, 1) := by decide +kernel
theorem dX7_fewest_24 : decode cX7_fewest 24 = .ok (.ireturn, 1) := by decide +kernel
theorem dX7_fewest_25 : decode cX7_fewest 25 = .ok (.iload_n 1, 1) := by decide +kernel
theorem dX7_fewest_26 : decode cX7_fewest 26 = .ok (.iload_n 2, 1) := by decide +kernel
theorem dX7_fewest_27 : decode cX7_fewest 27 = .ok (.if_icmp .ge 21, 3) := by decide +kernel
theorem dX7_fewest_30 : decode cX7_fewest 30 = .ok (.iload_n 1, 1) := by decide +kernel
theorem dX7_fewest_31 : decode cX7_fewest 31 = .ok (.aload_n 0, 1) := by decide +kernel
theorem dX7_fewest_32 : decode cX7_fewest 32 = .ok (.getfield 72, 3) := by decide +kernel
theorem dX7_fewest_35 : decode cX7_fewest 35 = .ok (.arraylength, 1) := by decide +kernel
theorem dX7_fewest_36 : decode cX7_fewest 36 = .ok (.if_icmp .ge 12, 3) := by decide +kernel
theorem dX7_fewest_39 : decode cX7_fewest 39 = .ok (.aload_n 0, 1) := by decide +kernel
theorem dX7_fewest_40 : decode cX7_fewest 40 = .ok (.getfield 72, 3) := by decide +kernel
theorem dX7_fewest_43 : decode cX7_fewest 43 = .ok (.iload_n 1, 1) := by decide +kernel
theorem dX7_fewest_44 : decode cX7_fewest 44 = .ok (.iaload, 1) := by decide +kernel
theorem dX7_fewest_45 : decode cX7_fewest 45 = .ok (.goto 5, 3) := by decide +kernel
theorem dX7_fewest_48 : decode cX7_fewest 48 = .ok (.bipush (-2), 2) := by decide +kernel
theorem dX7_fewest_50 : decode cX7_fewest 50 = .ok (.ireturn, 1) := by decide +kernel
theorem dX7_all_0 : decode cX7_all 0 = .ok (.iload_n 1, 1) := by decide +kernel
theorem dX7_all_1 : decode cX7_all 1 = .ok (.invokestatic 85, 3) := by decide +kernel
theorem dX7_all_4 : decode cX7_all 4 = .ok (.ifCond .ne 5, 3) := by decide +kernel
theorem dX7_all_7 : decode cX7_all 7 = .ok (.iconst (-1), 1) := by decide +kernel
theorem dX7_all_8 : decode cX7_all 8 = .ok (.ireturn, 1) := by decide +kernel
theorem dX7_all_9 : decode cX7_all 9 = .ok (.aload_n 0, 1) := by decide +kernel
theorem dX7_all_10 : decode cX7_all 10 = .ok (.getfield 30, 3) := by decide +kernel
theorem dX7_all_13 : decode cX7_all 13 = .ok (.aload_n 0, 1) := by decide +kernel
theorem dX7_all_14 : decode cX7_all 14 = .ok (.getfield 26, 3) := by decide +kernel
theorem dX7_all_17 : decode cX7_all 17 = .ok (.invokevirtual 187, 3) := by decide +kernel
theorem dX7_all_20 : decode cX7_all 20 = .ok (.iconst 0, 1) := by decide +kernel
theorem dX7_all_21 : decode cX7_all 21 = .ok (.istore_n 2, 1) := by decide +kernel
theorem dX7_all_22 : decode cX7_all 22 = .ok (.iload_n 2, 1) := by decide +kernel
theorem dX7_all_23 : decode cX7_all 23 = .ok (.aload_n 0, 1) := by decide +kernel
theorem dX7_all_24 : decode cX7_all 24 = .ok (.getfield 10, 3) := by decide +kernel
theorem dX7_all_27 : decode cX7_all 27 = .ok (.getfield 100, 3) := by decide +kernel
theorem dX7_all_30 : decode cX7_all 30 = .ok (.if_icmp .ge 20, 3) := by decide +kernel
theorem dX7_all_33 : decode cX7_all 33 = .ok (.aload_n 0, 1) := by decide +kernel
theorem dX7_all_34 : decode cX7_all 34 = .ok (.aload_n 0, 1) := by decide +kernel
theorem dX7_all_35 : decode cX7_all 35 = .ok (.getfield 30, 3) := by decide +kernel
theorem dX7_all_38 : decode cX7_all 38 = .ok (.iload_n 2, 1) := by decide +kernel
theorem dX7_all_39 : decode cX7_all 39 = .ok (.iload_n 1, 1) := by decide +kernel
theorem dX7_all_40 : decode cX7_all 40 = .ok (.invokevirtual 191, 3) := by decide +kernel
theorem dX7_all_43 : decode cX7_all 43 = .ok (.pop, 1) := by decide +kernel
theorem dX7_all_44 : decode cX7_all 44 = .ok (.iinc 2 1, 3) := by decide +kernel
theorem dX7_all_47 : decode cX7_all 47 = .ok (.goto (-25), 3) := by decide +kernel
theorem dX7_all_50 : decode cX7_all 50 = .ok (.aload_n 0, 1) := by decide +kernel
theorem dX7_all_51 : decode cX7_all 51 = .ok (.getfield 30, 3) := by decide +kernel
theorem dX7_all_54 : decode cX7_all 54 = .ok (.getfield 169, 3) := by decide +kernel
theorem dX7_all_57 : decode cX7_all 57 = .ok (.iload_n 1, 1) := by decide +kernel
theorem dX7_all_58 : decode cX7_all 58 = .ok (.iaload, 1) := by decide +kernel
theorem dX7_all_59 : decode cX7_all 59 = .ok (.ireturn, 1) := by decide +kernel
theorem dX7_evening_0 : decode cX7_evening 0 = .ok (.iload_n 1, 1) := by decide +kernel
theorem dX7_evening_1 : decode cX7_evening 1 = .ok (.ifCond .lt 8, 3) := by decide +kernel
theorem dX7_evening_4 : decode cX7_evening 4 = .ok (.iload_n 1, 1) := by decide +kernel
theorem dX7_evening_5 : decode cX7_evening 5 = .ok (.iconst 1, 1) := by decide +kernel
theorem dX7_evening_6 : decode cX7_evening 6 = .ok (.if_icmp .le 5, 3) := by decide +kernel
theorem dX7_evening_9 : decode cX7_evening 9 = .ok (.iconst (-1), 1) := by decide +kernel
theorem dX7_evening_10 : decode cX7_evening 10 = .ok (.ireturn, 1) := by decide +kernel
theorem dX7_evening_11 : decode cX7_evening 11 = .ok (.aload_n 0, 1) := by decide +kernel
theorem dX7_evening_12 : decode cX7_evening 12 = .ok (.getfield 68, 3) := by decide +kernel
theorem dX7_evening_15 : decode cX7_evening 15 = .ok (.invokevirtual 194, 3) := by decide +kernel
theorem dX7_evening_18 : decode cX7_evening 18 = .ok (.iconst 0, 1) := by decide +kernel
theorem dX7_evening_19 : decode cX7_evening 19 = .ok (.istore_n 2, 1) := by decide +kernel
theorem dX7_evening_20 : decode cX7_evening 20 = .ok (.iload_n 2, 1) := by decide +kernel
theorem dX7_evening_21 : decode cX7_evening 21 = .ok (.aload_n 0, 1) := by decide +kernel
theorem dX7_evening_22 : decode cX7_evening 22 = .ok (.getfield 10, 3) := by decide +kernel
theorem dX7_evening_25 : decode cX7_evening 25 = .ok (.getfield 100, 3) := by decide +kernel
theorem dX7_evening_28 : decode cX7_evening 28 = .ok (.if_icmp .ge 69, 3) := by decide +kernel
theorem dX7_evening_31 : decode cX7_evening 31 = .ok (.aload_n 0, 1) := by decide +kernel
theorem dX7_evening_32 : decode cX7_evening 32 = .ok (.getfield 26, 3) := by decide +kernel
theorem dX7_evening_35 : decode cX7_evening 35 = .ok (.iload_n 2, 1) := by decide +kernel
theorem dX7_evening_36 : decode cX7_evening 36 = .ok (.invokevirtual 197, 3) := by decide +kernel
theorem dX7_evening_39 : decode cX7_evening 39 = .ok (.ifCond .eq 6, 3) := by decide +kernel
theorem dX7_evening_42 : decode cX7_evening 42 = .ok (.goto 49, 3) := by decide +kernel
theorem dX7_evening_45 : decode cX7_evening 45 = .ok (.aload_n 0, 1) := by decide +kernel
theorem dX7_evening_46 : decode cX7_evening 46 = .ok (.getfield 10, 3) := by decide +kernel
theorem dX7_evening_49 : decode cX7_evening 49 = .ok (.getfield 200, 3) := by decide +kernel
theorem dX7_evening_52 : decode cX7_evening 52 = .ok (.aload_n 0, 1) := by decide +kernel
theorem dX7_evening_53 : decode cX7_evening 53 = .ok (.getfield 10, 3) := by decide +kernel
theorem dX7_evening_56 : decode cX7_evening 56 = .ok (.getfield 203, 3) := by decide +kernel
theorem dX7_evening_59 : decode cX7_evening 59 = .ok (.iload_n 2, 1) := by decide +kernel
theorem dX7_evening_60 : decode cX7_evening 60 = .ok (.iaload, 1) := by decide +kernel
theorem dX7_evening_61 : decode cX7_evening 61 = .ok (.iaload, 1) := by decide +kernel
theorem dX7_evening_62 : decode cX7_evening 62 = .ok (.istore_n 3, 1) := by decide +kernel
theorem dX7_evening_63 : decode cX7_evening 63 = .ok (.aload_n 0, 1) := by decide +kernel
theorem dX7_evening_64 : decode cX7_evening 64 = .ok (.getfield 68, 3) := by decide +kernel
theorem dX7_evening_67 : decode cX7_evening 67 = .ok (.iload_n 2, 1) := by decide +kernel
theorem dX7_evening_68 : decode cX7_evening 68 = .ok (.aload_n 0, 1) := by decide +kernel
theorem dX7_evening_69 : decode cX7_evening 69 = .ok (.getfield 10, 3) := by decide +kernel
theorem dX7_evening_72 : decode cX7_evening 72 = .ok (.getfield 206, 3) := by decide +kernel
theorem dX7_evening_75 : decode cX7_evening 75 = .ok (.iload_n 2, 1) := by decide +kernel
theorem dX7_evening_76 : decode cX7_evening 76 = .ok (.iaload, 1) := by decide +kernel
theorem dX7_evening_77 : decode cX7_evening 77 = .ok (.iload_n 3, 1) := by decide +kernel
theorem dX7_evening_78 : decode cX7_evening 78 = .ok (.aload_n 0, 1) := by decide +kernel
theorem dX7_evening_79 : decode cX7_evening 79 = .ok (.aload_n 0, 1) := by decide +kernel
theorem dX7_evening_80 : decode cX7_evening 80 = .ok (.getfield 26, 3) := by decide +kernel
theorem dX7_evening_83 : decode cX7_evening 83 = .ok (.iload_n 2, 1) := by decide +kernel
theorem dX7_evening_84 : decode cX7_evening 84 = .ok (.iload_n 3, 1) := by decide +kernel
theorem dX7_evening_85 : decode cX7_evening 85 = .ok (.invokevirtual 156, 3) := by decide +kernel
theorem dX7_evening_88 : decode cX7_evening 88 = .ok (.invokevirtual 209, 3) := by decide +kernel
theorem dX7_evening_91 : decode cX7_evening 91 = .ok (.iinc 2 1, 3) := by decide +kernel
theorem dX7_evening_94 : decode cX7_evening 94 = .ok (.goto (-74), 3) := by decide +kernel
theorem dX7_evening_97 : decode cX7_evening 97 = .ok (.aload_n 0, 1) := by decide +kernel
theorem dX7_evening_98 : decode cX7_evening 98 = .ok (.getfield 68, 3) := by decide +kernel
theorem dX7_evening_101 : decode cX7_evening 101 = .ok (.invokevirtual 212, 3) := by decide +kernel
theorem dX7_evening_104 : decode cX7_evening 104 = .ok (.iload_n 1, 1) := by decide +kernel
theorem dX7_evening_105 : decode cX7_evening 105 = .ok (.ifCond .ne 13, 3) := by decide +kernel
theorem dX7_evening_108 : decode cX7_evening 108 = .ok (.aload_n 0, 1) := by decide +kernel
theorem dX7_evening_109 : decode cX7_evening 109 = .ok (.getfield 68, 3) := by decide +kernel
theorem dX7_evening_112 : decode cX7_evening 112 = .ok (.getfield 215, 3) := by decide +kernel
theorem dX7_evening_115 : decode cX7_evening 115 = .ok (.goto 10, 3) := by decide +kernel
theorem dX7_evening_118 : decode cX7_evening 118 = .ok (.aload_n 0, 1) := by decide +kernel
theorem dX7_evening_119 : decode cX7_evening 119 = .ok (.getfield 68, 3) := by decide +kernel
theorem dX7_evening_122 : decode cX7_evening 122 = .ok (.getfield 218, 3) := by decide +kernel
theorem dX7_evening_125 : decode cX7_evening 125 = .ok (.ireturn, 1) := by decide +kernel
theorem dX7_ring_0 : decode cX7_ring 0 = .ok (.aload_n 0, 1) := by decide +kernel
theorem dX7_ring_1 : decode cX7_ring 1 = .ok (.getfield 82, 3) := by decide +kernel
theorem dX7_ring_4 : decode cX7_ring 4 = .ok (.iconst 0, 1) := by decide +kernel
theorem dX7_ring_5 : decode cX7_ring 5 = .ok (.invokestatic 221, 3) := by decide +kernel
theorem dX7_ring_8 : decode cX7_ring 8 = .ok (.iconst 0, 1) := by decide +kernel
theorem dX7_ring_9 : decode cX7_ring 9 = .ok (.istore_n 1, 1) := by decide +kernel
theorem dX7_ring_10 : decode cX7_ring 10 = .ok (.iload_n 1, 1) := by decide +kernel
theorem dX7_ring_11 : decode cX7_ring 11 = .ok (.aload_n 0, 1) := by decide +kernel
theorem dX7_ring_12 : decode cX7_ring 12 = .ok (.getfield 10, 3) := by decide +kernel
theorem dX7_ring_15 : decode cX7_ring 15 = .ok (.getfield 100, 3) := by decide +kernel
theorem dX7_ring_18 : decode cX7_ring 18 = .ok (.if_icmp .ge 48, 3) := by decide +kernel
theorem dX7_ring_21 : decode cX7_ring 21 = .ok (.aload_n 0, 1) := by decide +kernel
theorem dX7_ring_22 : decode cX7_ring 22 = .ok (.getfield 26, 3) := by decide +kernel
theorem dX7_ring_25 : decode cX7_ring 25 = .ok (.iload_n 1, 1) := by decide +kernel
theorem dX7_ring_26 : decode cX7_ring 26 = .ok (.invokevirtual 197, 3) := by decide +kernel
theorem dX7_ring_29 : decode cX7_ring 29 = .ok (.ifCond .ne 31, 3) := by decide +kernel
theorem dX7_ring_32 : decode cX7_ring 32 = .ok (.aload_n 0, 1) := by decide +kernel
theorem dX7_ring_33 : decode cX7_ring 33 = .ok (.getfield 82, 3) := by decide +kernel
theorem dX7_ring_36 : decode cX7_ring 36 = .ok (.aload_n 0, 1) := by decide +kernel
theorem dX7_ring_37 : decode cX7_ring 37 = .ok (.getfield 10, 3) := by decide +kernel
theorem dX7_ring_40 : decode cX7_ring 40 = .ok (.getfield 206, 3) := by decide +kernel
theorem dX7_ring_43 : decode cX7_ring 43 = .ok (.iload_n 1, 1) := by decide +kernel
theorem dX7_ring_44 : decode cX7_ring 44 = .ok (.iaload, 1) := by decide +kernel
theorem dX7_ring_45 : decode cX7_ring 45 = .ok (.dup2, 1) := by decide +kernel
theorem dX7_ring_46 : decode cX7_ring 46 = .ok (.iaload, 1) := by decide +kernel
theorem dX7_ring_47 : decode cX7_ring 47 = .ok (.iconst 1, 1) := by decide +kernel
theorem dX7_ring_48 : decode cX7_ring 48 = .ok (.aload_n 0, 1) := by decide +kernel
theorem dX7_ring_49 : decode cX7_ring 49 = .ok (.getfield 10, 3) := by decide +kernel
theorem dX7_ring_52 : decode cX7_ring 52 = .ok (.getfield 203, 3) := by decide +kernel
theorem dX7_ring_55 : decode cX7_ring 55 = .ok (.iload_n 1, 1) := by decide +kernel
theorem dX7_ring_56 : decode cX7_ring 56 = .ok (.iaload, 1) := by decide +kernel
theorem dX7_ring_57 : decode cX7_ring 57 = .ok (.ishl, 1) := by decide +kernel
theorem dX7_ring_58 : decode cX7_ring 58 = .ok (.ior, 1) := by decide +kernel
theorem dX7_ring_59 : decode cX7_ring 59 = .ok (.iastore, 1) := by decide +kernel
theorem dX7_ring_60 : decode cX7_ring 60 = .ok (.iinc 1 1, 3) := by decide +kernel
theorem dX7_ring_63 : decode cX7_ring 63 = .ok (.goto (-53), 3) := by decide +kernel
theorem dX7_ring_66 : decode cX7_ring 66 = .ok (.bipush 11, 2) := by decide +kernel
theorem dX7_ring_68 : decode cX7_ring 68 = .ok (.istore_n 1, 1) := by decide +kernel
theorem dX7_ring_69 : decode cX7_ring 69 = .ok (.iconst 0, 1) := by decide +kernel
theorem dX7_ring_70 : decode cX7_ring 70 = .ok (.istore_n 2, 1) := by decide +kernel
theorem dX7_ring_71 : decode cX7_ring 71 = .ok (.iload_n 2, 1) := by decide +kernel
theorem dX7_ring_72 : decode cX7_ring 72 = .ok (.aload_n 0, 1) := by decide +kernel
theorem dX7_ring_73 : decode cX7_ring 73 = .ok (.getfield 10, 3) := by decide +kernel
theorem dX7_ring_76 : decode cX7_ring 76 = .ok (.getfield 89, 3) := by decide +kernel
theorem dX7_ring_79 : decode cX7_ring 79 = .ok (.if_icmp .ge 28, 3) := by decide +kernel
theorem dX7_ring_82 : decode cX7_ring 82 = .ok (.aload_n 0, 1) := by decide +kernel
theorem dX7_ring_83 : decode cX7_ring 83 = .ok (.iload_n 2, 1) := by decide +kernel
theorem dX7_ring_84 : decode cX7_ring 84 = .ok (.invokevirtual 227, 3) := by decide +kernel
theorem dX7_ring_87 : decode cX7_ring 87 = .ok (.istore_n 3, 1) := by decide +kernel
theorem dX7_ring_88 : decode cX7_ring 88 = .ok (.iload_n 3, 1) := by decide +kernel
theorem dX7_ring_89 : decode cX7_ring 89 = .ok (.bipush (-2), 2) := by decide +kernel
theorem dX7_ring_91 : decode cX7_ring 91 = .ok (.if_icmp .eq 10, 3) := by decide +kernel
theorem dX7_ring_94 : decode cX7_ring 94 = .ok (.iload_n 3, 1) := by decide +kernel
theorem dX7_ring_95 : decode cX7_ring 95 = .ok (.iload_n 1, 1) := by decide +kernel
