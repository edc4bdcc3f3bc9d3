theorem dX0_init_0 : decode cX0_init 0 = .ok (.aload_n 0, 1) := by decide +kernel
theorem dX0_init_1 : decode cX0_init 1 = .ok (.invokespecial 3, 3) := by decide +kernel
theorem dX0_init_4 : decode cX0_init 4 = .ok (.aload_n 0, 1) := by decide +kernel
theorem dX0_init_5 : decode cX0_init 5 = .ok (.bipush 40, 2) := by decide +kernel
theorem dX0_init_7 : decode cX0_init 7 = .ok (.newarray .int, 2) := by decide +kernel
theorem dX0_init_9 : decode cX0_init 9 = .ok (.putfield 11, 3) := by decide +kernel
theorem dX0_init_12 : decode cX0_init 12 = .ok (.aload_n 0, 1) := by decide +kernel
theorem dX0_init_13 : decode cX0_init 13 = .ok (.bipush 40, 2) := by decide +kernel
theorem dX0_init_15 : decode cX0_init 15 = .ok (.newarray .int, 2) := by decide +kernel
theorem dX0_init_17 : decode cX0_init 17 = .ok (.putfield 15, 3) := by decide +kernel
theorem dX0_init_20 : decode cX0_init 20 = .ok (.aload_n 0, 1) := by decide +kernel
theorem dX0_init_21 : decode cX0_init 21 = .ok (.bipush 40, 2) := by decide +kernel
theorem dX0_init_23 : decode cX0_init 23 = .ok (.newarray .int, 2) := by decide +kernel
theorem dX0_init_25 : decode cX0_init 25 = .ok (.putfield 18, 3) := by decide +kernel
theorem dX0_init_28 : decode cX0_init 28 = .ok (.aload_n 0, 1) := by decide +kernel
theorem dX0_init_29 : decode cX0_init 29 = .ok (.bipush 40, 2) := by decide +kernel
theorem dX0_init_31 : decode cX0_init 31 = .ok (.newarray .int, 2) := by decide +kernel
theorem dX0_init_33 : decode cX0_init 33 = .ok (.putfield 21, 3) := by decide +kernel
theorem dX0_init_36 : decode cX0_init 36 = .ok (.aload_n 0, 1) := by decide +kernel
theorem dX0_init_37 : decode cX0_init 37 = .ok (.iconst 0, 1) := by decide +kernel
theorem dX0_init_38 : decode cX0_init 38 = .ok (.putfield 24, 3) := by decide +kernel
theorem dX0_init_41 : decode cX0_init 41 = .ok (.aload_n 0, 1) := by decide +kernel
theorem dX0_init_42 : decode cX0_init 42 = .ok (.iconst 0, 1) := by decide +kernel
theorem dX0_init_43 : decode cX0_init 43 = .ok (.putfield 28, 3) := by decide +kernel
theorem dX0_init_46 : decode cX0_init 46 = .ok (.return_, 1) := by decide +kernel
theorem dX0_undoable_0 : decode cX0_undoable 0 = .ok (.aload_n 0, 1) := by decide +kernel
theorem dX0_undoable_1 : decode cX0_undoable 1 = .ok (.getfield 24, 3) := by decide +kernel
theorem dX0_undoable_4 : decode cX0_undoable 4 = .ok (.ireturn, 1) := by decide +kernel
theorem dX0_add_0 : decode cX0_add 0 = .ok (.aload_n 0, 1) := by decide +kernel
theorem dX0_add_1 : decode cX0_add 1 = .ok (.getfield 24, 3) := by decide +kernel
theorem dX0_add_4 : decode cX0_add 4 = .ok (.bipush 40, 2) := by decide +kernel
theorem dX0_add_6 : decode cX0_add 6 = .ok (.if_icmp .lt 7, 3) := by decide +kernel
theorem dX0_add_9 : decode cX0_add 9 = .ok (.aload_n 0, 1) := by decide +kernel
theorem dX0_add_10 : decode cX0_add 10 = .ok (.invokevirtual 31, 3) := by decide +kernel
theorem dX0_add_13 : decode cX0_add 13 = .ok (.aload_n 0, 1) := by decide +kernel
theorem dX0_add_14 : decode cX0_add 14 = .ok (.getfield 11, 3) := by decide +kernel
theorem dX0_add_17 : decode cX0_add 17 = .ok (.aload_n 0, 1) := by decide +kernel
theorem dX0_add_18 : decode cX0_add 18 = .ok (.getfield 24, 3) := by decide +kernel
theorem dX0_add_21 : decode cX0_add 21 = .ok (.iload_n 1, 1) := by decide +kernel
theorem dX0_add_22 : decode cX0_add 22 = .ok (.iastore, 1) := by decide +kernel
theorem dX0_add_23 : decode cX0_add 23 = .ok (.aload_n 0, 1) := by decide +kernel
theorem dX0_add_24 : decode cX0_add 24 = .ok (.getfield 15, 3) := by decide +kernel
theorem dX0_add_27 : decode cX0_add 27 = .ok (.aload_n 0, 1) := by decide +kernel
theorem dX0_add_28 : decode cX0_add 28 = .ok (.getfield 24, 3) := by decide +kernel
theorem dX0_add_31 : decode cX0_add 31 = .ok (.iload_n 2, 1) := by decide +kernel
theorem dX0_add_32 : decode cX0_add 32 = .ok (.iastore, 1) := by decide +kernel
theorem dX0_add_33 : decode cX0_add 33 = .ok (.aload_n 0, 1) := by decide +kernel
theorem dX0_add_34 : decode cX0_add 34 = .ok (.getfield 18, 3) := by decide +kernel
theorem dX0_add_37 : decode cX0_add 37 = .ok (.aload_n 0, 1) := by decide +kernel
theorem dX0_add_38 : decode cX0_add 38 = .ok (.getfield 24, 3) := by decide +kernel
theorem dX0_add_41 : decode cX0_add 41 = .ok (.iload_n 3, 1) := by decide +kernel
theorem dX0_add_42 : decode cX0_add 42 = .ok (.iastore, 1) := by decide +kernel
theorem dX0_add_43 : decode cX0_add 43 = .ok (.aload_n 0, 1) := by decide +kernel
theorem dX0_add_44 : decode cX0_add 44 = .ok (.getfield 21, 3) := by decide +kernel
theorem dX0_add_47 : decode cX0_add 47 = .ok (.aload_n 0, 1) := by decide +kernel
theorem dX0_add_48 : decode cX0_add 48 = .ok (.getfield 24, 3) := by decide +kernel
theorem dX0_add_51 : decode cX0_add 51 = .ok (.iload 4, 2) := by decide +kernel
theorem dX0_add_53 : decode cX0_add 53 = .ok (.iastore, 1) := by decide +kernel
theorem dX0_add_54 : decode cX0_add 54 = .ok (.aload_n 0, 1) := by decide +kernel
theorem dX0_add_55 : decode cX0_add 55 = .ok (.dup, 1) := by decide +kernel
theorem dX0_add_56 : decode cX0_add 56 = .ok (.getfield 24, 3) := by decide +kernel
theorem dX0_add_59 : decode cX0_add 59 = .ok (.iconst 1, 1) := by decide +kernel
theorem dX0_add_60 : decode cX0_add 60 = .ok (.iadd, 1) := by decide +kernel
theorem dX0_add_61 : decode cX0_add 61 = .ok (.putfield 24, 3) := by decide +kernel
theorem dX0_add_64 : decode cX0_add 64 = .ok (.aload_n 0, 1) := by decide +kernel
theorem dX0_add_65 : decode cX0_add 65 = .ok (.aload_n 0, 1) := by decide +kernel
theorem dX0_add_66 : decode cX0_add 66 = .ok (.getfield 24, 3) := by decide +kernel
theorem dX0_add_69 : decode cX0_add 69 = .ok (.putfield 28, 3) := by decide +kernel
theorem dX0_add_72 : decode cX0_add 72 = .ok (.return_, 1) := by decide +kernel
theorem dX0_takeBack_0 : decode cX0_takeBack 0 = .ok (.aload_n 0, 1) := by decide +kernel
theorem dX0_takeBack_1 : decode cX0_takeBack 1 = .ok (.getfield 24, 3) := by decide +kernel
theorem dX0_takeBack_4 : decode cX0_takeBack 4 = .ok (.ifCond .gt 6, 3) := by decide +kernel
theorem dX0_takeBack_7 : decode cX0_takeBack 7 = .ok (.bipush (-5), 2) := by decide +kernel
theorem dX0_takeBack_9 : decode cX0_takeBack 9 = .ok (.ireturn, 1) := by decide +kernel
theorem dX0_takeBack_10 : decode cX0_takeBack 10 = .ok (.aload_n 0, 1) := by decide +kernel
theorem dX0_takeBack_11 : decode cX0_takeBack 11 = .ok (.dup, 1) := by decide +kernel
theorem dX0_takeBack_12 : decode cX0_takeBack 12 = .ok (.getfield 24, 3) := by decide +kernel
theorem dX0_takeBack_15 : decode cX0_takeBack 15 = .ok (.iconst 1, 1) := by decide +kernel
theorem dX0_takeBack_16 : decode cX0_takeBack 16 = .ok (.isub, 1) := by decide +kernel
theorem dX0_takeBack_17 : decode cX0_takeBack 17 = .ok (.putfield 24, 3) := by decide +kernel
theorem dX0_takeBack_20 : decode cX0_takeBack 20 = .ok (.aload_n 1, 1) := by decide +kernel
theorem dX0_takeBack_21 : decode cX0_takeBack 21 = .ok (.aload_n 0, 1) := by decide +kernel
theorem dX0_takeBack_22 : decode cX0_takeBack 22 = .ok (.getfield 11, 3) := by decide +kernel
theorem dX0_takeBack_25 : decode cX0_takeBack 25 = .ok (.aload_n 0, 1) := by decide +kernel
theorem dX0_takeBack_26 : decode cX0_takeBack 26 = .ok (.getfield 24, 3) := by decide +kernel
theorem dX0_takeBack_29 : decode cX0_takeBack 29 = .ok (.iaload, 1) := by decide +kernel
theorem dX0_takeBack_30 : decode cX0_takeBack 30 = .ok (.aload_n 0, 1) := by decide +kernel
theorem dX0_takeBack_31 : decode cX0_takeBack 31 = .ok (.getfield 15, 3) := by decide +kernel
theorem dX0_takeBack_34 : decode cX0_takeBack 34 = .ok (.aload_n 0, 1) := by decide +kernel
theorem dX0_takeBack_35 : decode cX0_takeBack 35 = .ok (.getfield 24, 3) := by decide +kernel
theorem dX0_takeBack_38 : decode cX0_takeBack 38 = .ok (.iaload, 1) := by decide +kernel
theorem dX0_takeBack_39 : decode cX0_takeBack 39 = .ok (.aload_n 0, 1) := by decide +kernel
theorem dX0_takeBack_40 : decode cX0_takeBack 40 = .ok (.getfield 18, 3) := by decide +kernel
theorem dX0_takeBack_43 : decode cX0_takeBack 43 = .ok (.aload_n 0, 1) := by decide +kernel
theorem dX0_takeBack_44 : decode cX0_takeBack 44 = .ok (.getfield 24, 3) := by decide +kernel
theorem dX0_takeBack_47 : decode cX0_takeBack 47 = .ok (.iaload, 1) := by decide +kernel
theorem dX0_takeBack_48 : decode cX0_takeBack 48 = .ok (.invokevirtual 34, 3) := by decide +kernel
theorem dX0_takeBack_51 : decode cX0_takeBack 51 = .ok (.aload_n 0, 1) := by decide +kernel
theorem dX0_takeBack_52 : decode cX0_takeBack 52 = .ok (.getfield 24, 3) := by decide +kernel
theorem dX0_takeBack_55 : decode cX0_takeBack 55 = .ok (.ireturn, 1) := by decide +kernel
theorem dX0_makeAgain_0 : decode cX0_makeAgain 0 = .ok (.aload_n 0, 1) := by decide +kernel
theorem dX0_makeAgain_1 : decode cX0_makeAgain 1 = .ok (.getfield 24, 3) := by decide +kernel
theorem dX0_makeAgain_4 : decode cX0_makeAgain 4 = .ok (.aload_n 0, 1) := by decide +kernel
theorem dX0_makeAgain_5 : decode cX0_makeAgain 5 = .ok (.getfield 28, 3) := by decide +kernel
theorem dX0_makeAgain_8 : decode cX0_makeAgain 8 = .ok (.if_icmp .lt 6, 3) := by decide +kernel
theorem dX0_makeAgain_11 : decode cX0_makeAgain 11 = .ok (.bipush (-5), 2) := by decide +kernel
theorem dX0_makeAgain_13 : decode cX0_makeAgain 13 = .ok (.ireturn, 1) := by decide +kernel
theorem dX0_makeAgain_14 : decode cX0_makeAgain 14 = .ok (.aload_n 1, 1) := by decide +kernel
theorem dX0_makeAgain_15 : decode cX0_makeAgain 15 = .ok (.aload_n 0, 1) := by decide +kernel
theorem dX0_makeAgain_16 : decode cX0_makeAgain 16 = .ok (.getfield 11, 3) := by decide +kernel
theorem dX0_makeAgain_19 : decode cX0_makeAgain 19 = .ok (.aload_n 0, 1) := by decide +kernel
theorem dX0_makeAgain_20 : decode cX0_makeAgain 20 = .ok (.getfield 24, 3) := by decide +kernel
theorem dX0_makeAgain_23 : decode cX0_makeAgain 23 = .ok (.iaload, 1) := by decide +kernel
theorem dX0_makeAgain_24 : decode cX0_makeAgain 24 = .ok (.aload_n 0, 1) := by decide +kernel
theorem dX0_makeAgain_25 : decode cX0_makeAgain 25 = .ok (.getfield 15, 3) := by decide +kernel
theorem dX0_makeAgain_28 : decode cX0_makeAgain 28 = .ok (.aload_n 0, 1) := by decide +kernel
theorem dX0_makeAgain_29 : decode cX0_makeAgain 29 = .ok (.getfield 24, 3) := by decide +kernel
theorem dX0_makeAgain_32 : decode cX0_makeAgain 32 = .ok (.iaload, 1) := by decide +kernel
theorem dX0_makeAgain_33 : decode cX0_makeAgain 33 = .ok (.aload_n 0, 1) := by decide +kernel
theorem dX0_makeAgain_34 : decode cX0_makeAgain 34 = .ok (.getfield 21, 3) := by decide +kernel
theorem dX0_makeAgain_37 : decode cX0_makeAgain 37 = .ok (.aload_n 0, 1) := by decide +kernel
theorem dX0_makeAgain_38 : decode cX0_makeAgain 38 = .ok (.getfield 24, 3) := by decide +kernel
theorem dX0_makeAgain_41 : decode cX0_makeAgain 41 = .ok (.iaload, 1) := by decide +kernel
theorem dX0_makeAgain_42 : decode cX0_makeAgain 42 = .ok (.invokevirtual 34, 3) := by decide +kernel
theorem dX0_makeAgain_45 : decode cX0_makeAgain 45 = .ok (.aload_n 0, 1) := by decide +kernel
theorem dX0_makeAgain_46 : decode cX0_makeAgain 46 = .ok (.dup, 1) := by decide +kernel
theorem dX0_makeAgain_47 : decode cX0_makeAgain 47 = .ok (.getfield 24, 3) := by decide +kernel
theorem dX0_makeAgain_50 : decode cX0_makeAgain 50 = .ok (.iconst 1, 1) := by decide +kernel
theorem dX0_makeAgain_51 : decode cX0_makeAgain 51 = .ok (.iadd, 1) := by decide +kernel
theorem dX0_makeAgain_52 : decode cX0_makeAgain 52 = .ok (.putfield 24, 3) := by decide +kernel
theorem dX0_makeAgain_55 : decode cX0_makeAgain 55 = .ok (.aload_n 0, 1) := by decide +kernel
theorem dX0_makeAgain_56 : decode cX0_makeAgain 56 = .ok (.getfield 28, 3) := by decide +kernel
theorem dX0_makeAgain_59 : decode cX0_makeAgain 59 = .ok (.aload_n 0, 1) := by decide +kernel
theorem dX0_makeAgain_60 : decode cX0_makeAgain 60 = .ok (.getfield 24, 3) := by decide +kernel
theorem dX0_makeAgain_63 : decode cX0_makeAgain 63 = .ok (.isub, 1) := by decide +kernel
theorem dX0_makeAgain_64 : decode cX0_makeAgain 64 = .ok (.ireturn, 1) := by decide +kernel
theorem dX0_forgetFirst_0 : decode cX0_forgetFirst 0 = .ok (.aload_n 0, 1) := by decide +kernel
theorem dX0_forgetFirst_1 : decode cX0_forgetFirst 1 = .ok (.getfield 11, 3) := by decide +kernel
theorem dX0_forgetFirst_4 : decode cX0_forgetFirst 4 = .ok (.iconst 1, 1) := by decide +kernel
theorem dX0_forgetFirst_5 : decode cX0_forgetFirst 5 = .ok (.aload_n 0, 1) := by decide +kernel
theorem dX0_forgetFirst_6 : decode cX0_forgetFirst 6 = .ok (.getfield 11, 3) := by decide +kernel
theorem dX0_forgetFirst_9 : decode cX0_forgetFirst 9 = .ok (.iconst 0, 1) := by decide +kernel
theorem dX0_forgetFirst_10 : decode cX0_forgetFirst 10 = .ok (.bipush 39, 2) := by decide +kernel
theorem dX0_forgetFirst_12 : decode cX0_forgetFirst 12 = .ok (.invokestatic 40, 3) := by decide +kernel
theorem dX0_forgetFirst_15 : decode cX0_forgetFirst 15 = .ok (.aload_n 0, 1) := by decide +kernel
theorem dX0_forgetFirst_16 : decode cX0_forgetFirst 16 = .ok (.getfield 15, 3) := by decide +kernel
theorem dX0_forgetFirst_19 : decode cX0_forgetFirst 19 = .ok (.iconst 1, 1) := by decide +kernel
theorem dX0_forgetFirst_20 : decode cX0_forgetFirst 20 = .ok (.aload_n 0, 1) := by decide +kernel
theorem dX0_forgetFirst_21 : decode cX0_forgetFirst 21 = .ok (.getfield 15, 3) := by decide +kernel
theorem dX0_forgetFirst_24 : decode cX0_forgetFirst 24 = .ok (.iconst 0, 1) := by decide +kernel
theorem dX0_forgetFirst_25 : decode cX0_forgetFirst 25 = .ok (.bipush 39, 2) := by decide +kernel
theorem dX0_forgetFirst_27 : decode cX0_forgetFirst 27 = .ok (.invokestatic 40, 3) := by decide +kernel
theorem dX0_forgetFirst_30 : decode cX0_forgetFirst 30 = .ok (.aload_n 0, 1) := by decide +kernel
theorem dX0_forgetFirst_31 : decode cX0_forgetFirst 31 = .ok (.getfield 18, 3) := by decide +kernel
theorem dX0_forgetFirst_34 : decode cX0_forgetFirst 34 = .ok (.iconst 1, 1) := by decide +kernel
theorem dX0_forgetFirst_35 : decode cX0_forgetFirst 35 = .ok (.aload_n 0, 1) := by decide +kernel
theorem dX0_forgetFirst_36 : decode cX0_forgetFirst 36 = .ok (.getfield 18, 3) := by decide +kernel
theorem dX0_forgetFirst_39 : decode cX0_forgetFirst 39 = .ok (.iconst 0, 1) := by decide +kernel
theorem dX0_forgetFirst_40 : decode cX0_forgetFirst 40 = .ok (.bipush 39, 2) := by decide +kernel
theorem dX0_forgetFirst_42 : decode cX0_forgetFirst 42 = .ok (.invokestatic 40, 3) := by decide +kernel
theorem dX0_forgetFirst_45 : decode cX0_forgetFirst 45 = .ok (.aload_n 0, 1) := by decide +kernel
theorem dX0_forgetFirst_46 : decode cX0_forgetFirst 46 = .ok (.getfield 21, 3) := by decide +kernel
theorem dX0_forgetFirst_49 : decode cX0_forgetFirst 49 = .ok (.iconst 1, 1) := by decide +kernel
theorem dX0_forgetFirst_50 : decode cX0_forgetFirst 50 = .ok (.aload_n 0, 1) := by decide +kernel
theorem dX0_forgetFirst_51 : decode cX0_forgetFirst 51 = .ok (.getfield 21, 3) := by decide +kernel
theorem dX0_forgetFirst_54 : decode cX0_forgetFirst 54 = .ok (.iconst 0, 1) := by decide +kernel
theorem dX0_forgetFirst_55 : decode cX0_forgetFirst 55 = .ok (.bipush 39, 2) := by decide +kernel
theorem dX0_forgetFirst_57 : decode cX0_forgetFirst 57 = .ok (.invokestatic 40, 3) := by decide +kernel
theorem dX0_forgetFirst_60 : decode cX0_forgetFirst 60 = .ok (.aload_n 0, 1) := by decide +kernel
theorem dX0_forgetFirst_61 : decode cX0_forgetFirst 61 = .ok (.bipush 39, 2) := by decide +kernel
theorem dX0_forgetFirst_63 : decode cX0_forgetFirst 63 = .ok (.putfield 24, 3) := by decide +kernel
theorem dX0_forgetFirst_66 : decode cX0_forgetFirst 66 = .ok (.return_, 1) := by decide +kernel
theorem dX1_init_0 : decode cX1_init 0 = .ok (.aload_n 0, 1) := by decide +kernel
theorem dX1_init_1 : decode cX1_init 1 = .ok (.invokespecial 3, 3) := by decide +kernel
theorem dX1_init_4 : decode cX1_init 4 = .ok (.aload_n 0, 1) := by decide +kernel
theorem dX1_init_5 : decode cX1_init 5 = .ok (.bipush 7, 2) := by decide +kernel
theorem dX1_init_7 : decode cX1_init 7 = .ok (.newarray .int, 2) := by decide +kernel
theorem dX1_init_9 : decode cX1_init 9 = .ok (.putfield 9, 3) := by decide +kernel
theorem dX1_init_12 : decode cX1_init 12 = .ok (.aload_n 0, 1) := by decide +kernel
theorem dX1_init_13 : decode cX1_init 13 = .ok (.bipush 7, 2) := by decide +kernel
theorem dX1_init_15 : decode cX1_init 15 = .ok (.newarray .int, 2) := by decide +kernel
theorem dX1_init_17 : decode cX1_init 17 = .ok (.putfield 15, 3) := by decide +kernel
theorem dX1_init_20 : decode cX1_init 20 = .ok (.aload_n 0, 1) := by decide +kernel
theorem dX1_init_21 : decode cX1_init 21 = .ok (.bipush 7, 2) := by decide +kernel
theorem dX1_init_23 : decode cX1_init 23 = .ok (.newarray .int, 2) := by decide +kernel
theorem dX1_init_25 : decode cX1_init 25 = .ok (.putfield 18, 3) := by decide +kernel
theorem dX1_init_28 : decode cX1_init 28 = .ok (.aload_n 0, 1) := by decide +kernel
theorem dX1_init_29 : decode cX1_init 29 = .ok (.bipush 7, 2) := by decide +kernel
theorem dX1_init_31 : decode cX1_init 31 = .ok (.newarray .int, 2) := by decide +kernel
theorem dX1_init_33 : decode cX1_init 33 = .ok (.putfield 21, 3) := by decide +kernel
theorem dX1_init_36 : decode cX1_init 36 = .ok (.aload_n 0, 1) := by decide +kernel
theorem dX1_init_37 : decode cX1_init 37 = .ok (.bipush 8, 2) := by decide +kernel
theorem dX1_init_39 : decode cX1_init 39 = .ok (.newarray .int, 2) := by decide +kernel
theorem dX1_init_41 : decode cX1_init 41 = .ok (.putfield 24, 3) := by decide +kernel
theorem dX1_init_44 : decode cX1_init 44 = .ok (.aload_n 0, 1) := by decide +kernel
theorem dX1_init_45 : decode cX1_init 45 = .ok (.bipush 8, 2) := by decide +kernel
theorem dX1_init_47 : decode cX1_init 47 = .ok (.newarray .int, 2) := by decide +kernel
theorem dX1_init_49 : decode cX1_init 49 = .ok (.putfield 27, 3) := by decide +kernel
theorem dX1_init_52 : decode cX1_init 52 = .ok (.aload_n 0, 1) := by decide +kernel
theorem dX1_init_53 : decode cX1_init 53 = .ok (.bipush 8, 2) := by decide +kernel
theorem dX1_init_55 : decode cX1_init 55 = .ok (.newarray .int, 2) := by decide +kernel
theorem dX1_init_57 : decode cX1_init 57 = .ok (.putfield 30, 3) := by decide +kernel
theorem dX1_init_60 : decode cX1_init 60 = .ok (.aload_n 0, 1) := by decide +kernel
theorem dX1_init_61 : decode cX1_init 61 = .ok (.bipush 8, 2) := by decide +kernel
theorem dX1_init_63 : decode cX1_init 63 = .ok (.newarray .int, 2) := by decide +kernel
theorem dX1_init_65 : decode cX1_init 65 = .ok (.putfield 33, 3) := by decide +kernel
theorem dX1_init_68 : decode cX1_init 68 = .ok (.aload_n 0, 1) := by decide +kernel
theorem dX1_init_69 : decode cX1_init 69 = .ok (.iconst 0, 1) := by decide +kernel
theorem dX1_init_70 : decode cX1_init 70 = .ok (.putfield 36, 3) := by decide +kernel
theorem dX1_init_73 : decode cX1_init 73 = .ok (.aload_n 0, 1) := by decide +kernel
theorem dX1_init_74 : decode cX1_init 74 = .ok (.iconst 0, 1) := by decide +kernel
theorem dX1_init_75 : decode cX1_init 75 = .ok (.putfield 40, 3) := by decide +kernel
theorem dX1_init_78 : decode cX1_init 78 = .ok (.aload_n 0, 1) := by decide +kernel
theorem dX1_init_79 : decode cX1_init 79 = .ok (.iconst 0, 1) := by decide +kernel
theorem dX1_init_80 : decode cX1_init 80 = .ok (.putfield 44, 3) := by decide +kernel
theorem dX1_init_83 : decode cX1_init 83 = .ok (.aload_n 0, 1) := by decide +kernel
theorem dX1_init_84 : decode cX1_init 84 = .ok (.iconst 0, 1) := by decide +kernel
theorem dX1_init_85 : decode cX1_init 85 = .ok (.putfield 47, 3) := by decide +kernel
theorem dX1_init_88 : decode cX1_init 88 = .ok (.aload_n 0, 1) := by decide +kernel
theorem dX1_init_89 : decode cX1_init 89 = .ok (.iconst 0, 1) := by decide +kernel
theorem dX1_init_90 : decode cX1_init 90 = .ok (.putfield 50, 3) := by decide +kernel
theorem dX1_init_93 : decode cX1_init 93 = .ok (.aload_n 0, 1) := by decide +kernel
theorem dX1_init_94 : decode cX1_init 94 = .ok (.aload_n 1, 1) := by decide +kernel
theorem dX1_init_95 : decode cX1_init 95 = .ok (.putfield 53, 3) := by decide +kernel
theorem dX1_init_98 : decode cX1_init 98 = .ok (.aload_n 0, 1) := by decide +kernel
theorem dX1_init_99 : decode cX1_init 99 = .ok (.aload_n 2, 1) := by decide +kernel
theorem dX1_init_100 : decode cX1_init 100 = .ok (.putfield 57, 3) := by decide +kernel
theorem dX1_init_103 : decode cX1_init 103 = .ok (.aload_n 0, 1) := by decide +kernel
theorem dX1_init_104 : decode cX1_init 104 = .ok (.getfield 9, 3) := by decide +kernel
theorem dX1_init_107 : decode cX1_init 107 = .ok (.iconst 2, 1) := by decide +kernel
theorem dX1_init_108 : decode cX1_init 108 = .ok (.invokestatic 61, 3) := by decide +kernel
theorem dX1_init_111 : decode cX1_init 111 = .ok (.iconst 0, 1) := by decide +kernel
theorem dX1_init_112 : decode cX1_init 112 = .ok (.istore_n 3, 1) := by decide +kernel
theorem dX1_init_113 : decode cX1_init 113 = .ok (.iload_n 3, 1) := by decide +kernel
theorem dX1_init_114 : decode cX1_init 114 = .ok (.bipush 8, 2) := by decide +kernel
theorem dX1_init_116 : decode cX1_init 116 = .ok (.if_icmp .ge 16, 3) := by decide +kernel
theorem dX1_init_119 : decode cX1_init 119 = .ok (.aload_n 0, 1) := by decide +kernel
theorem dX1_init_120 : decode cX1_init 120 = .ok (.getfield 30, 3) := by decide +kernel
theorem dX1_init_123 : decode cX1_init 123 = .ok (.iload_n 3, 1) := by decide +kernel
theorem dX1_init_124 : decode cX1_init 124 = .ok (.iload_n 3, 1) := by decide +kernel
theorem dX1_init_125 : decode cX1_init 125 = .ok (.iastore, 1) := by decide +kernel
theorem dX1_init_126 : decode cX1_init 126 = .ok (.iinc 3 1, 3) := by decide +kernel
theorem dX1_init_129 : decode cX1_init 129 = .ok (.goto (-16), 3) := by decide +kernel
theorem dX1_init_132 : decode cX1_init 132 = .ok (.return_, 1) := by decide +kernel
theorem dX1_becomeAs_0 : decode cX1_becomeAs 0 = .ok (.aload_n 1, 1) := by decide +kernel
theorem dX1_becomeAs_1 : decode cX1_becomeAs 1 = .ok (.getfield 15, 3) := by decide +kernel
theorem dX1_becomeAs_4 : decode cX1_becomeAs 4 = .ok (.iconst 0, 1) := by decide +kernel
theorem dX1_becomeAs_5 : decode cX1_becomeAs 5 = .ok (.aload_n 0, 1) := by decide +kernel
theorem dX1_becomeAs_6 : decode cX1_becomeAs 6 = .ok (.getfield 15, 3) := by decide +kernel
theorem dX1_becomeAs_9 : decode cX1_becomeAs 9 = .ok (.iconst 0, 1) := by decide +kernel
theorem dX1_becomeAs_10 : decode cX1_becomeAs 10 = .ok (.bipush 7, 2) := by decide +kernel
theorem dX1_becomeAs_12 : decode cX1_becomeAs 12 = .ok (.invokestatic 67, 3) := by decide +kernel
theorem dX1_becomeAs_15 : decode cX1_becomeAs 15 = .ok (.aload_n 1, 1) := by decide +kernel
theorem dX1_becomeAs_16 : decode cX1_becomeAs 16 = .ok (.getfield 18, 3) := by decide +kernel
theorem dX1_becomeAs_19 : decode cX1_becomeAs 19 = .ok (.iconst 0, 1) := by decide +kernel
theorem dX1_becomeAs_20 : decode cX1_becomeAs 20 = .ok (.aload_n 0, 1) := by decide +kernel
theorem dX1_becomeAs_21 : decode cX1_becomeAs 21 = .ok (.getfield 18, 3) := by decide +kernel
theorem dX1_becomeAs_24 : decode cX1_becomeAs 24 = .ok (.iconst 0, 1) := by decide +kernel
theorem dX1_becomeAs_25 : decode cX1_becomeAs 25 = .ok (.bipush 7, 2) := by decide +kernel
theorem dX1_becomeAs_27 : decode cX1_becomeAs 27 = .ok (.invokestatic 67, 3) := by decide +kernel
theorem dX1_becomeAs_30 : decode cX1_becomeAs 30 = .ok (.aload_n 1, 1) := by decide +kernel
theorem dX1_becomeAs_31 : decode cX1_becomeAs 31 = .ok (.getfield 24, 3) := by decide +kernel
theorem dX1_becomeAs_34 : decode cX1_becomeAs 34 = .ok (.iconst 0, 1) := by decide +kernel
theorem dX1_becomeAs_35 : decode cX1_becomeAs 35 = .ok (.aload_n 0, 1) := by decide +kernel
theorem dX1_becomeAs_36 : decode cX1_becomeAs 36 = .ok (.getfield 24, 3) := by decide +kernel
theorem dX1_becomeAs_39 : decode cX1_becomeAs 39 = .ok (.iconst 0, 1) := by decide +kernel
theorem dX1_becomeAs_40 : decode cX1_becomeAs 40 = .ok (.bipush 8, 2) := by decide +kernel
theorem dX1_becomeAs_42 : decode cX1_becomeAs 42 = .ok (.invokestatic 67, 3) := by decide +kernel
theorem dX1_becomeAs_45 : decode cX1_becomeAs 45 = .ok (.aload_n 1, 1) := by decide +kernel
theorem dX1_becomeAs_46 : decode cX1_becomeAs 46 = .ok (.getfield 27, 3) := by decide +kernel
theorem dX1_becomeAs_49 : decode cX1_becomeAs 49 = .ok (.iconst 0, 1) := by decide +kernel
theorem dX1_becomeAs_50 : decode cX1_becomeAs 50 = .ok (.aload_n 0, 1) := by decide +kernel
theorem dX1_becomeAs_51 : decode cX1_becomeAs 51 = .ok (.getfield 27, 3) := by decide +kernel
theorem dX1_becomeAs_54 : decode cX1_becomeAs 54 = .ok (.iconst 0, 1) := by decide +kernel
theorem dX1_becomeAs_55 : decode cX1_becomeAs 55 = .ok (.bipush 8, 2) := by decide +kernel
theorem dX1_becomeAs_57 : decode cX1_becomeAs 57 = .ok (.invokestatic 67, 3) := by decide +kernel
theorem dX1_becomeAs_60 : decode cX1_becomeAs 60 = .ok (.aload_n 0, 1) := by decide +kernel
theorem dX1_becomeAs_61 : decode cX1_becomeAs 61 = .ok (.aload_n 1, 1) := by decide +kernel
theorem dX1_becomeAs_62 : decode cX1_becomeAs 62 = .ok (.getfield 40, 3) := by decide +kernel
theorem dX1_becomeAs_65 : decode cX1_becomeAs 65 = .ok (.putfield 40, 3) := by decide +kernel
theorem dX1_becomeAs_68 : decode cX1_becomeAs 68 = .ok (.aload_n 0, 1) := by decide +kernel
theorem dX1_becomeAs_69 : decode cX1_becomeAs 69 = .ok (.aload_n 1, 1) := by decide +kernel
theorem dX1_becomeAs_70 : decode cX1_becomeAs 70 = .ok (.getfield 44, 3) := by decide +kernel
theorem dX1_becomeAs_73 : decode cX1_becomeAs 73 = .ok (.putfield 44, 3) := by decide +kernel
theorem dX1_becomeAs_76 : decode cX1_becomeAs 76 = .ok (.return_, 1) := by decide +kernel
theorem dX1_begin_0 : decode cX1_begin 0 = .ok (.aload_n 1, 1) := by decide +kernel
theorem dX1_begin_1 : decode cX1_begin 1 = .ok (.getfield 9, 3) := by decide +kernel
theorem dX1_begin_4 : decode cX1_begin 4 = .ok (.iconst 0, 1) := by decide +kernel
theorem dX1_begin_5 : decode cX1_begin 5 = .ok (.aload_n 0, 1) := by decide +kernel
theorem dX1_begin_6 : decode cX1_begin 6 = .ok (.getfield 9, 3) := by decide +kernel
theorem dX1_begin_9 : decode cX1_begin 9 = .ok (.iconst 0, 1) := by decide +kernel
theorem dX1_begin_10 : decode cX1_begin 10 = .ok (.bipush 7, 2) := by decide +kernel
theorem dX1_begin_12 : decode cX1_begin 12 = .ok (.invokestatic 67, 3) := by decide +kernel
theorem dX1_begin_15 : decode cX1_begin 15 = .ok (.aload_n 1, 1) := by decide +kernel
theorem dX1_begin_16 : decode cX1_begin 16 = .ok (.getfield 15, 3) := by decide +kernel
theorem dX1_begin_19 : decode cX1_begin 19 = .ok (.iconst 0, 1) := by decide +kernel
theorem dX1_begin_20 : decode cX1_begin 20 = .ok (.aload_n 0, 1) := by decide +kernel
theorem dX1_begin_21 : decode cX1_begin 21 = .ok (.getfield 15, 3) := by decide +kernel
theorem dX1_begin_24 : decode cX1_begin 24 = .ok (.iconst 0, 1) := by decide +kernel
theorem dX1_begin_25 : decode cX1_begin 25 = .ok (.bipush 7, 2) := by decide +kernel
theorem dX1_begin_27 : decode cX1_begin 27 = .ok (.invokestatic 67, 3) := by decide +kernel
theorem dX1_begin_30 : decode cX1_begin 30 = .ok (.aload_n 1, 1) := by decide +kernel
theorem dX1_begin_31 : decode cX1_begin 31 = .ok (.getfield 18, 3) := by decide +kernel
theorem dX1_begin_34 : decode cX1_begin 34 = .ok (.iconst 0, 1) := by decide +kernel
theorem dX1_begin_35 : decode cX1_begin 35 = .ok (.aload_n 0, 1) := by decide +kernel
theorem dX1_begin_36 : decode cX1_begin 36 = .ok (.getfield 18, 3) := by decide +kernel
theorem dX1_begin_39 : decode cX1_begin 39 = .ok (.iconst 0, 1) := by decide +kernel
theorem dX1_begin_40 : decode cX1_begin 40 = .ok (.bipush 7, 2) := by decide +kernel
theorem dX1_begin_42 : decode cX1_begin 42 = .ok (.invokestatic 67, 3) := by decide +kernel
theorem dX1_begin_45 : decode cX1_begin 45 = .ok (.aload_n 0, 1) := by decide +kernel
theorem dX1_begin_46 : decode cX1_begin 46 = .ok (.getfield 24, 3) := by decide +kernel
theorem dX1_begin_49 : decode cX1_begin 49 = .ok (.iconst 0, 1) := by decide +kernel
theorem dX1_begin_50 : decode cX1_begin 50 = .ok (.invokestatic 61, 3) := by decide +kernel
theorem dX1_begin_53 : decode cX1_begin 53 = .ok (.aload_n 0, 1) := by decide +kernel
theorem dX1_begin_54 : decode cX1_begin 54 = .ok (.getfield 27, 3) := by decide +kernel
theorem dX1_begin_57 : decode cX1_begin 57 = .ok (.iconst 0, 1) := by decide +kernel
theorem dX1_begin_58 : decode cX1_begin 58 = .ok (.invokestatic 61, 3) := by decide +kernel
theorem dX1_begin_61 : decode cX1_begin 61 = .ok (.iconst 0, 1) := by decide +kernel
theorem dX1_begin_62 : decode cX1_begin 62 = .ok (.istore_n 3, 1) := by decide +kernel
theorem dX1_begin_63 : decode cX1_begin 63 = .ok (.iload_n 3, 1) := by decide +kernel
theorem dX1_begin_64 : decode cX1_begin 64 = .ok (.bipush 8, 2) := by decide +kernel
theorem dX1_begin_66 : decode cX1_begin 66 = .ok (.if_icmp .ge 16, 3) := by decide +kernel
theorem dX1_begin_69 : decode cX1_begin 69 = .ok (.aload_n 0, 1) := by decide +kernel
theorem dX1_begin_70 : decode cX1_begin 70 = .ok (.getfield 30, 3) := by decide +kernel
theorem dX1_begin_73 : decode cX1_begin 73 = .ok (.iload_n 3, 1) := by decide +kernel
theorem dX1_begin_74 : decode cX1_begin 74 = .ok (.iload_n 3, 1) := by decide +kernel
theorem dX1_begin_75 : decode cX1_begin 75 = .ok (.iastore, 1) := by decide +kernel
theorem dX1_begin_76 : decode cX1_begin 76 = .ok (.iinc 3 1, 3) := by decide +kernel
theorem dX1_begin_79 : decode cX1_begin 79 = .ok (.goto (-16), 3) := by decide +kernel
theorem dX1_begin_82 : decode cX1_begin 82 = .ok (.aload_n 0, 1) := by decide +kernel
theorem dX1_begin_83 : decode cX1_begin 83 = .ok (.aload_n 1, 1) := by decide +kernel
theorem dX1_begin_84 : decode cX1_begin 84 = .ok (.getfield 40, 3) := by decide +kernel
theorem dX1_begin_87 : decode cX1_begin 87 = .ok (.putfield 40, 3) := by decide +kernel
theorem dX1_begin_90 : decode cX1_begin 90 = .ok (.aload_n 0, 1) := by decide +kernel
theorem dX1_begin_91 : decode cX1_begin 91 = .ok (.iconst 0, 1) := by decide +kernel
theorem dX1_begin_92 : decode cX1_begin 92 = .ok (.putfield 44, 3) := by decide +kernel
theorem dX1_begin_95 : decode cX1_begin 95 = .ok (.aload_n 0, 1) := by decide +kernel
theorem dX1_begin_96 : decode cX1_begin 96 = .ok (.iload_n 2, 1) := by decide +kernel
theorem dX1_begin_97 : decode cX1_begin 97 = .ok (.putfield 47, 3) := by decide +kernel
theorem dX1_begin_100 : decode cX1_begin 100 = .ok (.aload_n 0, 1) := by decide +kernel
theorem dX1_begin_101 : decode cX1_begin 101 = .ok (.aload_n 0, 1) := by decide +kernel
theorem dX1_begin_102 : decode cX1_begin 102 = .ok (.getfield 40, 3) := by decide +kernel
theorem dX1_begin_105 : decode cX1_begin 105 = .ok (.putfield 50, 3) := by decide +kernel
theorem dX1_begin_108 : decode cX1_begin 108 = .ok (.return_, 1) := by decide +kernel
theorem dX1_beginAnew_0 : decode cX1_beginAnew 0 = .ok (.aload_n 0, 1) := by decide +kernel
theorem dX1_beginAnew_1 : decode cX1_beginAnew 1 = .ok (.aload_n 1, 1) := by decide +kernel
theorem dX1_beginAnew_2 : decode cX1_beginAnew 2 = .ok (.iload_n 2, 1) := by decide +kernel
theorem dX1_beginAnew_3 : decode cX1_beginAnew 3 = .ok (.invokevirtual 73, 3) := by decide +kernel
theorem dX1_beginAnew_6 : decode cX1_beginAnew 6 = .ok (.aload_n 0, 1) := by decide +kernel
theorem dX1_beginAnew_7 : decode cX1_beginAnew 7 = .ok (.getfield 15, 3) := by decide +kernel
theorem dX1_beginAnew_10 : decode cX1_beginAnew 10 = .ok (.iconst 0, 1) := by decide +kernel
theorem dX1_beginAnew_11 : decode cX1_beginAnew 11 = .ok (.invokestatic 61, 3) := by decide +kernel
theorem dX1_beginAnew_14 : decode cX1_beginAnew 14 = .ok (.aload_n 0, 1) := by decide +kernel
theorem dX1_beginAnew_15 : decode cX1_beginAnew 15 = .ok (.getfield 18, 3) := by decide +kernel
theorem dX1_beginAnew_18 : decode cX1_beginAnew 18 = .ok (.iconst 0, 1) := by decide +kernel
theorem dX1_beginAnew_19 : decode cX1_beginAnew 19 = .ok (.invokestatic 61, 3) := by decide +kernel
theorem dX1_beginAnew_22 : decode cX1_beginAnew 22 = .ok (.aload_n 0, 1) := by decide +kernel
theorem dX1_beginAnew_23 : decode cX1_beginAnew 23 = .ok (.iconst 0, 1) := by decide +kernel
theorem dX1_beginAnew_24 : decode cX1_beginAnew 24 = .ok (.putfield 40, 3) := by decide +kernel
theorem dX1_beginAnew_27 : decode cX1_beginAnew 27 = .ok (.aload_n 0, 1) := by decide +kernel
theorem dX1_beginAnew_28 : decode cX1_beginAnew 28 = .ok (.iconst 0, 1) := by decide +kernel
theorem dX1_beginAnew_29 : decode cX1_beginAnew 29 = .ok (.putfield 50, 3) := by decide +kernel
theorem dX1_beginAnew_32 : decode cX1_beginAnew 32 = .ok (.return_, 1) := by decide +kernel
theorem dX1_changeSeats_0 : decode cX1_changeSeats 0 = .ok (.aload_n 0, 1) := by decide +kernel
theorem dX1_changeSeats_1 : decode cX1_changeSeats 1 = .ok (.getfield 53, 3) := by decide +kernel
theorem dX1_changeSeats_4 : decode cX1_changeSeats 4 = .ok (.iload_n 1, 1) := by decide +kernel
theorem dX1_changeSeats_5 : decode cX1_changeSeats 5 = .ok (.invokevirtual 77, 3) := by decide +kernel
theorem dX1_changeSeats_8 : decode cX1_changeSeats 8 = .ok (.ifCond .eq 14, 3) := by decide +kernel
theorem dX1_changeSeats_11 : decode cX1_changeSeats 11 = .ok (.aload_n 0, 1) := by decide +kernel
theorem dX1_changeSeats_12 : decode cX1_changeSeats 12 = .ok (.getfield 53, 3) := by decide +kernel
theorem dX1_changeSeats_15 : decode cX1_changeSeats 15 = .ok (.iload_n 2, 1) := by decide +kernel
theorem dX1_changeSeats_16 : decode cX1_changeSeats 16 = .ok (.invokevirtual 77, 3) := by decide +kernel
theorem dX1_changeSeats_19 : decode cX1_changeSeats 19 = .ok (.ifCond .ne 4, 3) := by decide +kernel
theorem dX1_changeSeats_22 : decode cX1_changeSeats 22 = .ok (.return_, 1) := by decide +kernel
theorem dX1_changeSeats_23 : decode cX1_changeSeats 23 = .ok (.aload_n 0, 1) := by decide +kernel
theorem dX1_changeSeats_24 : decode cX1_changeSeats 24 = .ok (.getfield 30, 3) := by decide +kernel
theorem dX1_changeSeats_27 : decode cX1_changeSeats 27 = .ok (.iload_n 1, 1) := by decide +kernel
theorem dX1_changeSeats_28 : decode cX1_changeSeats 28 = .ok (.iload_n 2, 1) := by decide +kernel
theorem dX1_changeSeats_29 : decode cX1_changeSeats 29 = .ok (.iastore, 1) := by decide +kernel
theorem dX1_changeSeats_30 : decode cX1_changeSeats 30 = .ok (.aload_n 0, 1) := by decide +kernel
theorem dX1_changeSeats_31 : decode cX1_changeSeats 31 = .ok (.getfield 30, 3) := by decide +kernel
theorem dX1_changeSeats_34 : decode cX1_changeSeats 34 = .ok (.iload_n 2, 1) := by decide +kernel
theorem dX1_changeSeats_35 : decode cX1_changeSeats 35 = .ok (.iload_n 1, 1) := by decide +kernel
theorem dX1_changeSeats_36 : decode cX1_changeSeats 36 = .ok (.iastore, 1) := by decide +kernel
theorem dX1_changeSeats_37 : decode cX1_changeSeats 37 = .ok (.return_, 1) := by decide +kernel
theorem dX1_fit_0 : decode cX1_fit 0 = .ok (.aload_n 0, 1) := by decide +kernel
theorem dX1_fit_1 : decode cX1_fit 1 = .ok (.getfield 9, 3) := by decide +kernel
theorem dX1_fit_4 : decode cX1_fit 4 = .ok (.iload_n 1, 1) := by decide +kernel
theorem dX1_fit_5 : decode cX1_fit 5 = .ok (.iload_n 2, 1) := by decide +kernel
theorem dX1_fit_6 : decode cX1_fit 6 = .ok (.iastore, 1) := by decide +kernel
theorem dX1_fit_7 : decode cX1_fit 7 = .ok (.aload_n 0, 1) := by decide +kernel
theorem dX1_fit_8 : decode cX1_fit 8 = .ok (.getfield 15, 3) := by decide +kernel
theorem dX1_fit_11 : decode cX1_fit 11 = .ok (.iload_n 1, 1) := by decide +kernel
theorem dX1_fit_12 : decode cX1_fit 12 = .ok (.aload_n 0, 1) := by decide +kernel
theorem dX1_fit_13 : decode cX1_fit 13 = .ok (.getfield 15, 3) := by decide +kernel
theorem dX1_fit_16 : decode cX1_fit 16 = .ok (.iload_n 1, 1) := by decide +kernel
theorem dX1_fit_17 : decode cX1_fit 17 = .ok (.iaload, 1) := by decide +kernel
theorem dX1_fit_18 : decode cX1_fit 18 = .ok (.iload_n 2, 1) := by decide +kernel
theorem dX1_fit_19 : decode cX1_fit 19 = .ok (.invokestatic 83, 3) := by decide +kernel
theorem dX1_fit_22 : decode cX1_fit 22 = .ok (.iastore, 1) := by decide +kernel
theorem dX1_fit_23 : decode cX1_fit 23 = .ok (.aload_n 0, 1) := by decide +kernel
theorem dX1_fit_24 : decode cX1_fit 24 = .ok (.getfield 18, 3) := by decide +kernel
theorem dX1_fit_27 : decode cX1_fit 27 = .ok (.iload_n 1, 1) := by decide +kernel
theorem dX1_fit_28 : decode cX1_fit 28 = .ok (.aload_n 0, 1) := by decide +kernel
theorem dX1_fit_29 : decode cX1_fit 29 = .ok (.getfield 18, 3) := by decide +kernel
theorem dX1_fit_32 : decode cX1_fit 32 = .ok (.iload_n 1, 1) := by decide +kernel
theorem dX1_fit_33 : decode cX1_fit 33 = .ok (.iaload, 1) := by decide +kernel
theorem dX1_fit_34 : decode cX1_fit 34 = .ok (.iload_n 2, 1) := by decide +kernel
theorem dX1_fit_35 : decode cX1_fit 35 = .ok (.aload_n 0, 1) := by decide +kernel
theorem dX1_fit_36 : decode cX1_fit 36 = .ok (.getfield 15, 3) := by decide +kernel
theorem dX1_fit_39 : decode cX1_fit 39 = .ok (.iload_n 1, 1) := by decide +kernel
theorem dX1_fit_40 : decode cX1_fit 40 = .ok (.iaload, 1) := by decide +kernel
theorem dX1_fit_41 : decode cX1_fit 41 = .ok (.isub, 1) := by decide +kernel
theorem dX1_fit_42 : decode cX1_fit 42 = .ok (.invokestatic 83, 3) := by decide +kernel
theorem dX1_fit_45 : decode cX1_fit 45 = .ok (.iastore, 1) := by decide +kernel
theorem dX1_fit_46 : decode cX1_fit 46 = .ok (.return_, 1) := by decide +kernel
theorem dX1_free_0 : decode cX1_free 0 = .ok (.aload_n 0, 1) := by decide +kernel
theorem dX1_free_1 : decode cX1_free 1 = .ok (.getfield 9, 3) := by decide +kernel
theorem dX1_free_4 : decode cX1_free 4 = .ok (.iload_n 1, 1) := by decide +kernel
theorem dX1_free_5 : decode cX1_free 5 = .ok (.iaload, 1) := by decide +kernel
theorem dX1_free_6 : decode cX1_free 6 = .ok (.aload_n 0, 1) := by decide +kernel
theorem dX1_free_7 : decode cX1_free 7 = .ok (.getfield 15, 3) := by decide +kernel
theorem dX1_free_10 : decode cX1_free 10 = .ok (.iload_n 1, 1) := by decide +kernel
theorem dX1_free_11 : decode cX1_free 11 = .ok (.iaload, 1) := by decide +kernel
theorem dX1_free_12 : decode cX1_free 12 = .ok (.isub, 1) := by decide +kernel
theorem dX1_free_13 : decode cX1_free 13 = .ok (.aload_n 0, 1) := by decide +kernel
theorem dX1_free_14 : decode cX1_free 14 = .ok (.getfield 18, 3) := by decide +kernel
theorem dX1_free_17 : decode cX1_free 17 = .ok (.iload_n 1, 1) := by decide +kernel
theorem dX1_free_18 : decode cX1_free 18 = .ok (.iaload, 1) := by decide +kernel
theorem dX1_free_19 : decode cX1_free 19 = .ok (.isub, 1) := by decide +kernel
theorem dX1_free_20 : decode cX1_free 20 = .ok (.ireturn, 1) := by decide +kernel
theorem dX1_inchesOf_0 : decode cX1_inchesOf 0 = .ok (.iconst 0, 1) := by decide +kernel
theorem dX1_inchesOf_1 : decode cX1_inchesOf 1 = .ok (.istore_n 2, 1) := by decide +kernel
theorem dX1_inchesOf_2 : decode cX1_inchesOf 2 = .ok (.iconst 0, 1) := by decide +kernel
theorem dX1_inchesOf_3 : decode cX1_inchesOf 3 = .ok (.istore_n 3, 1) := by decide +kernel
theorem dX1_inchesOf_4 : decode cX1_inchesOf 4 = .ok (.iload_n 3, 1) := by decide +kernel
theorem dX1_inchesOf_5 : decode cX1_inchesOf 5 = .ok (.aload_n 0, 1) := by decide +kernel
theorem dX1_inchesOf_6 : decode cX1_inchesOf 6 = .ok (.getfield 53, 3) := by decide +kernel
theorem dX1_inchesOf_9 : decode cX1_inchesOf 9 = .ok (.invokevirtual 89, 3) := by decide +kernel
theorem dX1_inchesOf_12 : decode cX1_inchesOf 12 = .ok (.if_icmp .ge 25, 3) := by decide +kernel
theorem dX1_inchesOf_15 : decode cX1_inchesOf 15 = .ok (.aload_n 0, 1) := by decide +kernel
theorem dX1_inchesOf_16 : decode cX1_inchesOf 16 = .ok (.getfield 30, 3) := by decide +kernel
theorem dX1_inchesOf_19 : decode cX1_inchesOf 19 = .ok (.iload_n 3, 1) := by decide +kernel
theorem dX1_inchesOf_20 : decode cX1_inchesOf 20 = .ok (.iaload, 1) := by decide +kernel
theorem dX1_inchesOf_21 : decode cX1_inchesOf 21 = .ok (.iload_n 1, 1) := by decide +kernel
theorem dX1_inchesOf_22 : decode cX1_inchesOf 22 = .ok (.if_icmp .ne 9, 3) := by decide +kernel
theorem dX1_inchesOf_25 : decode cX1_inchesOf 25 = .ok (.aload_n 0, 1) := by decide +kernel
theorem dX1_inchesOf_26 : decode cX1_inchesOf 26 = .ok (.iload_n 3, 1) := by decide +kernel
theorem dX1_inchesOf_27 : decode cX1_inchesOf 27 = .ok (.invokevirtual 93, 3) := by decide +kernel
theorem dX1_inchesOf_30 : decode cX1_inchesOf 30 = .ok (.istore_n 2, 1) := by decide +kernel
theorem dX1_inchesOf_31 : decode cX1_inchesOf 31 = .ok (.iinc 3 1, 3) := by decide +kernel
theorem dX1_inchesOf_34 : decode cX1_inchesOf 34 = .ok (.goto (-30), 3) := by decide +kernel
theorem dX1_inchesOf_37 : decode cX1_inchesOf 37 = .ok (.iload_n 2, 1) := by decide +kernel
theorem dX1_inchesOf_38 : decode cX1_inchesOf 38 = .ok (.ireturn, 1) := by decide +kernel
theorem dX1_comfortOfAll_0 : decode cX1_comfortOfAll 0 = .ok (.iconst 0, 1) := by decide +kernel
theorem dX1_comfortOfAll_1 : decode cX1_comfortOfAll 1 = .ok (.istore_n 1, 1) := by decide +kernel
theorem dX1_comfortOfAll_2 : decode cX1_comfortOfAll 2 = .ok (.iconst 0, 1) := by decide +kernel
theorem dX1_comfortOfAll_3 : decode cX1_comfortOfAll 3 = .ok (.istore_n 2, 1) := by decide +kernel
theorem dX1_comfortOfAll_4 : decode cX1_comfortOfAll 4 = .ok (.iload_n 2, 1) := by decide +kernel
theorem dX1_comfortOfAll_5 : decode cX1_comfortOfAll 5 = .ok (.aload_n 0, 1) := by decide +kernel
theorem dX1_comfortOfAll_6 : decode cX1_comfortOfAll 6 = .ok (.getfield 53, 3) := by decide +kernel
theorem dX1_comfortOfAll_9 : decode cX1_comfortOfAll 9 = .ok (.invokevirtual 89, 3) := by decide +kernel
theorem dX1_comfortOfAll_12 : decode cX1_comfortOfAll 12 = .ok (.if_icmp .ge 18, 3) := by decide +kernel
theorem dX1_comfortOfAll_15 : decode cX1_comfortOfAll 15 = .ok (.iload_n 1, 1) := by decide +kernel
theorem dX1_comfortOfAll_16 : decode cX1_comfortOfAll 16 = .ok (.aload_n 0, 1) := by decide +kernel
theorem dX1_comfortOfAll_17 : decode cX1_comfortOfAll 17 = .ok (.getfield 24, 3) := by decide +kernel
theorem dX1_comfortOfAll_20 : decode cX1_comfortOfAll 20 = .ok (.iload_n 2, 1) := by decide +kernel
theorem dX1_comfortOfAll_21 : decode cX1_comfortOfAll 21 = .ok (.iaload, 1) := by decide +kernel
theorem dX1_comfortOfAll_22 : decode cX1_comfortOfAll 22 = .ok (.iadd, 1) := by decide +kernel
theorem dX1_comfortOfAll_23 : decode cX1_comfortOfAll 23 = .ok (.istore_n 1, 1) := by decide +kernel
theorem dX1_comfortOfAll_24 : decode cX1_comfortOfAll 24 = .ok (.iinc 2 1, 3) := by decide +kernel
theorem dX1_comfortOfAll_27 : decode cX1_comfortOfAll 27 = .ok (.goto (-23), 3) := by decide +kernel
theorem dX1_comfortOfAll_30 : decode cX1_comfortOfAll 30 = .ok (.iload_n 1, 1) := by decide +kernel
theorem dX1_comfortOfAll_31 : decode cX1_comfortOfAll 31 = .ok (.ireturn, 1) := by decide +kernel
theorem dX1_passHours_0 : decode cX1_passHours 0 = .ok (.iconst 0, 1) := by decide +kernel
theorem dX1_passHours_1 : decode cX1_passHours 1 = .ok (.istore_n 2, 1) := by decide +kernel
theorem dX1_passHours_2 : decode cX1_passHours 2 = .ok (.iload_n 2, 1) := by decide +kernel
theorem dX1_passHours_3 : decode cX1_passHours 3 = .ok (.iload_n 1, 1) := by decide +kernel
theorem dX1_passHours_4 : decode cX1_passHours 4 = .ok (.if_icmp .ge 146, 3) := by decide +kernel
theorem dX1_passHours_7 : decode cX1_passHours 7 = .ok (.aload_n 0, 1) := by decide +kernel
theorem dX1_passHours_8 : decode cX1_passHours 8 = .ok (.getfield 40, 3) := by decide +kernel
theorem dX1_passHours_11 : decode cX1_passHours 11 = .ok (.bipush 24, 2) := by decide +kernel
theorem dX1_passHours_13 : decode cX1_passHours 13 = .ok (.if_icmp .ge 137, 3) := by decide +kernel
theorem dX1_passHours_16 : decode cX1_passHours 16 = .ok (.aload_n 0, 1) := by decide +kernel
theorem dX1_passHours_17 : decode cX1_passHours 17 = .ok (.getfield 21, 3) := by decide +kernel
theorem dX1_passHours_20 : decode cX1_passHours 20 = .ok (.iconst 0, 1) := by decide +kernel
theorem dX1_passHours_21 : decode cX1_passHours 21 = .ok (.invokestatic 61, 3) := by decide +kernel
theorem dX1_passHours_24 : decode cX1_passHours 24 = .ok (.aload_n 0, 1) := by decide +kernel
theorem dX1_passHours_25 : decode cX1_passHours 25 = .ok (.getfield 33, 3) := by decide +kernel
theorem dX1_passHours_28 : decode cX1_passHours 28 = .ok (.iconst 0, 1) := by decide +kernel
theorem dX1_passHours_29 : decode cX1_passHours 29 = .ok (.invokestatic 61, 3) := by decide +kernel
theorem dX1_passHours_32 : decode cX1_passHours 32 = .ok (.aload_n 0, 1) := by decide +kernel
theorem dX1_passHours_33 : decode cX1_passHours 33 = .ok (.iconst 0, 1) := by decide +kernel
theorem dX1_passHours_34 : decode cX1_passHours 34 = .ok (.putfield 36, 3) := by decide +kernel
theorem dX1_passHours_37 : decode cX1_passHours 37 = .ok (.iconst 0, 1) := by decide +kernel
theorem dX1_passHours_38 : decode cX1_passHours 38 = .ok (.istore_n 3, 1) := by decide +kernel
theorem dX1_passHours_39 : decode cX1_passHours 39 = .ok (.iload_n 3, 1) := by decide +kernel
theorem dX1_passHours_40 : decode cX1_passHours 40 = .ok (.aload_n 0, 1) := by decide +kernel
theorem dX1_passHours_41 : decode cX1_passHours 41 = .ok (.getfield 53, 3) := by decide +kernel
theorem dX1_passHours_44 : decode cX1_passHours 44 = .ok (.invokevirtual 97, 3) := by decide +kernel
theorem dX1_passHours_47 : decode cX1_passHours 47 = .ok (.if_icmp .ge 14, 3) := by decide +kernel
theorem dX1_passHours_50 : decode cX1_passHours 50 = .ok (.aload_n 0, 1) := by decide +kernel
theorem dX1_passHours_51 : decode cX1_passHours 51 = .ok (.iload_n 3, 1) := by decide +kernel
theorem dX1_passHours_52 : decode cX1_passHours 52 = .ok (.invokevirtual 100, 3) := by decide +kernel
theorem dX1_passHours_55 : decode cX1_passHours 55 = .ok (.iinc 3 1, 3) := by decide +kernel
theorem dX1_passHours_58 : decode cX1_passHours 58 = .ok (.goto (-19), 3) := by decide +kernel
theorem dX1_passHours_61 : decode cX1_passHours 61 = .ok (.iconst 0, 1) := by decide +kernel
theorem dX1_passHours_62 : decode cX1_passHours 62 = .ok (.istore_n 3, 1) := by decide +kernel
theorem dX1_passHours_63 : decode cX1_passHours 63 = .ok (.iload_n 3, 1) := by decide +kernel
theorem dX1_passHours_64 : decode cX1_passHours 64 = .ok (.aload_n 0, 1) := by decide +kernel
theorem dX1_passHours_65 : decode cX1_passHours 65 = .ok (.getfield 53, 3) := by decide +kernel
theorem dX1_passHours_68 : decode cX1_passHours 68 = .ok (.invokevirtual 89, 3) := by decide +kernel
theorem dX1_passHours_71 : decode cX1_passHours 71 = .ok (.if_icmp .ge 48, 3) := by decide +kernel
theorem dX1_passHours_74 : decode cX1_passHours 74 = .ok (.aload_n 0, 1) := by decide +kernel
theorem dX1_passHours_75 : decode cX1_passHours 75 = .ok (.getfield 24, 3) := by decide +kernel
theorem dX1_passHours_78 : decode cX1_passHours 78 = .ok (.aload_n 0, 1) := by decide +kernel
theorem dX1_passHours_79 : decode cX1_passHours 79 = .ok (.getfield 30, 3) := by decide +kernel
theorem dX1_passHours_82 : decode cX1_passHours 82 = .ok (.iload_n 3, 1) := by decide +kernel
theorem dX1_passHours_83 : decode cX1_passHours 83 = .ok (.iaload, 1) := by decide +kernel
theorem dX1_passHours_84 : decode cX1_passHours 84 = .ok (.dup2, 1) := by decide +kernel
theorem dX1_passHours_85 : decode cX1_passHours 85 = .ok (.iaload, 1) := by decide +kernel
theorem dX1_passHours_86 : decode cX1_passHours 86 = .ok (.aload_n 0, 1) := by decide +kernel
theorem dX1_passHours_87 : decode cX1_passHours 87 = .ok (.iload_n 3, 1) := by decide +kernel
theorem dX1_passHours_88 : decode cX1_passHours 88 = .ok (.invokevirtual 104, 3) := by decide +kernel
theorem dX1_passHours_91 : decode cX1_passHours 91 = .ok (.iadd, 1) := by decide +kernel
theorem dX1_passHours_92 : decode cX1_passHours 92 = .ok (.iastore, 1) := by decide +kernel
theorem dX1_passHours_93 : decode cX1_passHours 93 = .ok (.aload_n 0, 1) := by decide +kernel
theorem dX1_passHours_94 : decode cX1_passHours 94 = .ok (.getfield 27, 3) := by decide +kernel
theorem dX1_passHours_97 : decode cX1_passHours 97 = .ok (.aload_n 0, 1) := by decide +kernel
theorem dX1_passHours_98 : decode cX1_passHours 98 = .ok (.getfield 30, 3) := by decide +kernel
theorem dX1_passHours_101 : decode cX1_passHours 101 = .ok (.iload_n 3, 1) := by decide +kernel
theorem dX1_passHours_102 : decode cX1_passHours 102 = .ok (.iaload, 1) := by decide +kernel
theorem dX1_passHours_103 : decode cX1_passHours 103 = .ok (.dup2, 1) := by decide +kernel
theorem dX1_passHours_104 : decode cX1_passHours 104 = .ok (.iaload, 1) := by decide +kernel
theorem dX1_passHours_105 : decode cX1_passHours 105 = .ok (.aload_n 0, 1) := by decide +kernel
theorem dX1_passHours_106 : decode cX1_passHours 106 = .ok (.getfield 33, 3) := by decide +kernel
theorem dX1_passHours_109 : decode cX1_passHours 109 = .ok (.iload_n 3, 1) := by decide +kernel
theorem dX1_passHours_110 : decode cX1_passHours 110 = .ok (.iaload, 1) := by decide +kernel
theorem dX1_passHours_111 : decode cX1_passHours 111 = .ok (.iadd, 1) := by decide +kernel
theorem dX1_passHours_112 : decode cX1_passHours 112 = .ok (.iastore, 1) := by decide +kernel
theorem dX1_passHours_113 : decode cX1_passHours 113 = .ok (.iinc 3 1, 3) := by decide +kernel
theorem dX1_passHours_116 : decode cX1_passHours 116 = .ok (.goto (-53), 3) := by decide +kernel
theorem dX1_passHours_119 : decode cX1_passHours 119 = .ok (.aload_n 0, 1) := by decide +kernel
theorem dX1_passHours_120 : decode cX1_passHours 120 = .ok (.dup, 1) := by decide +kernel
theorem dX1_passHours_121 : decode cX1_passHours 121 = .ok (.getfield 40, 3) := by decide +kernel
theorem dX1_passHours_124 : decode cX1_passHours 124 = .ok (.iconst 1, 1) := by decide +kernel
theorem dX1_passHours_125 : decode cX1_passHours 125 = .ok (.iadd, 1) := by decide +kernel
theorem dX1_passHours_126 : decode cX1_passHours 126 = .ok (.putfield 40, 3) := by decide +kernel
theorem dX1_passHours_129 : decode cX1_passHours 129 = .ok (.aload_n 0, 1) := by decide +kernel
theorem dX1_passHours_130 : decode cX1_passHours 130 = .ok (.getfield 36, 3) := by decide +kernel
theorem dX1_passHours_133 : decode cX1_passHours 133 = .ok (.ifCond .eq 11, 3) := by decide +kernel
theorem dX1_passHours_136 : decode cX1_passHours 136 = .ok (.aload_n 0, 1) := by decide +kernel
theorem dX1_passHours_137 : decode cX1_passHours 137 = .ok (.aload_n 0, 1) := by decide +kernel
theorem dX1_passHours_138 : decode cX1_passHours 138 = .ok (.getfield 40, 3) := by decide +kernel
theorem dX1_passHours_141 : decode cX1_passHours 141 = .ok (.putfield 50, 3) := by decide +kernel
theorem dX1_passHours_144 : decode cX1_passHours 144 = .ok (.iinc 2 1, 3) := by decide +kernel
theorem dX1_passHours_147 : decode cX1_passHours 147 = .ok (.goto (-145), 3) := by decide +kernel
theorem dX1_passHours_150 : decode cX1_passHours 150 = .ok (.return_, 1) := by decide +kernel
theorem dX1_strengthAt_0 : decode cX1_strengthAt 0 = .ok (.aload_n 0, 1) := by decide +kernel
theorem dX1_strengthAt_1 : decode cX1_strengthAt 1 = .ok (.getfield 30, 3) := by decide +kernel
theorem dX1_strengthAt_4 : decode cX1_strengthAt 4 = .ok (.iload_n 1, 1) := by decide +kernel
theorem dX1_strengthAt_5 : decode cX1_strengthAt 5 = .ok (.iaload, 1) := by decide +kernel
theorem dX1_strengthAt_6 : decode cX1_strengthAt 6 = .ok (.istore 4, 2) := by decide +kernel
theorem dX1_strengthAt_8 : decode cX1_strengthAt 8 = .ok (.iload_n 1, 1) := by decide +kernel
theorem dX1_strengthAt_9 : decode cX1_strengthAt 9 = .ok (.iload_n 2, 1) := by decide +kernel
theorem dX1_strengthAt_10 : decode cX1_strengthAt 10 = .ok (.if_icmp .ne 7, 3) := by decide +kernel
theorem dX1_strengthAt_13 : decode cX1_strengthAt 13 = .ok (.iconst 1, 1) := by decide +kernel
theorem dX1_strengthAt_14 : decode cX1_strengthAt 14 = .ok (.goto 4, 3) := by decide +kernel
theorem dX1_strengthAt_17 : decode cX1_strengthAt 17 = .ok (.iconst 0, 1) := by decide +kernel
theorem dX1_strengthAt_18 : decode cX1_strengthAt 18 = .ok (.istore 5, 2) := by decide +kernel
theorem dX1_strengthAt_20 : decode cX1_strengthAt 20 = .ok (.iload 5, 2) := by decide +kernel
theorem dX1_strengthAt_22 : decode cX1_strengthAt 22 = .ok (.ifCond .eq 12, 3) := by decide +kernel
theorem dX1_strengthAt_25 : decode cX1_strengthAt 25 = .ok (.aload_n 0, 1) := by decide +kernel
theorem dX1_strengthAt_26 : decode cX1_strengthAt 26 = .ok (.getfield 15, 3) := by decide +kernel
theorem dX1_strengthAt_29 : decode cX1_strengthAt 29 = .ok (.iload_n 2, 1) := by decide +kernel
theorem dX1_strengthAt_30 : decode cX1_strengthAt 30 = .ok (.iaload, 1) := by decide +kernel
theorem dX1_strengthAt_31 : decode cX1_strengthAt 31 = .ok (.goto 9, 3) := by decide +kernel
theorem dX1_strengthAt_34 : decode cX1_strengthAt 34 = .ok (.aload_n 0, 1) := by decide +kernel
theorem dX1_strengthAt_35 : decode cX1_strengthAt 35 = .ok (.getfield 18, 3) := by decide +kernel
theorem dX1_strengthAt_38 : decode cX1_strengthAt 38 = .ok (.iload_n 2, 1) := by decide +kernel
theorem dX1_strengthAt_39 : decode cX1_strengthAt 39 = .ok (.iaload, 1) := by decide +kernel
theorem dX1_strengthAt_40 : decode cX1_strengthAt 40 = .ok (.istore 6, 2) := by decide +kernel
theorem dX1_strengthAt_42 : decode cX1_strengthAt 42 = .ok (.aload_n 0, 1) := by decide +kernel
theorem dX1_strengthAt_43 : decode cX1_strengthAt 43 = .ok (.getfield 53, 3) := by decide +kernel
theorem dX1_strengthAt_46 : decode cX1_strengthAt 46 = .ok (.iload 4, 2) := by decide +kernel
theorem dX1_strengthAt_48 : decode cX1_strengthAt 48 = .ok (.iconst 1, 1) := by decide +kernel
theorem dX1_strengthAt_49 : decode cX1_strengthAt 49 = .ok (.invokevirtual 107, 3) := by decide +kernel
theorem dX1_strengthAt_52 : decode cX1_strengthAt 52 = .ok (.istore 7, 2) := by decide +kernel
theorem dX1_strengthAt_54 : decode cX1_strengthAt 54 = .ok (.aload_n 0, 1) := by decide +kernel
theorem dX1_strengthAt_55 : decode cX1_strengthAt 55 = .ok (.getfield 53, 3) := by decide +kernel
theorem dX1_strengthAt_58 : decode cX1_strengthAt 58 = .ok (.iload 4, 2) := by decide +kernel
theorem dX1_strengthAt_60 : decode cX1_strengthAt 60 = .ok (.aload_n 0, 1) := by decide +kernel
theorem dX1_strengthAt_61 : decode cX1_strengthAt 61 = .ok (.getfield 40, 3) := by decide +kernel
theorem dX1_strengthAt_64 : decode cX1_strengthAt 64 = .ok (.invokevirtual 110, 3) := by decide +kernel
theorem dX1_strengthAt_67 : decode cX1_strengthAt 67 = .ok (.istore 8, 2) := by decide +kernel
theorem dX1_strengthAt_69 : decode cX1_strengthAt 69 = .ok (.aload_n 0, 1) := by decide +kernel
theorem dX1_strengthAt_70 : decode cX1_strengthAt 70 = .ok (.getfield 57, 3) := by decide +kernel
theorem dX1_strengthAt_73 : decode cX1_strengthAt 73 = .ok (.invokevirtual 113, 3) := by decide +kernel
theorem dX1_strengthAt_76 : decode cX1_strengthAt 76 = .ok (.ifCond .ne 29, 3) := by decide +kernel
theorem dX1_strengthAt_79 : decode cX1_strengthAt 79 = .ok (.iload 8, 2) := by decide +kernel
theorem dX1_strengthAt_81 : decode cX1_strengthAt 81 = .ok (.iconst 1, 1) := by decide +kernel
theorem dX1_strengthAt_82 : decode cX1_strengthAt 82 = .ok (.if_icmp .ne 15, 3) := by decide +kernel
theorem dX1_strengthAt_85 : decode cX1_strengthAt 85 = .ok (.iconst 2, 1) := by decide +kernel
theorem dX1_strengthAt_86 : decode cX1_strengthAt 86 = .ok (.iload 7, 2) := by decide +kernel
theorem dX1_strengthAt_88 : decode cX1_strengthAt 88 = .ok (.imul, 1) := by decide +kernel
theorem dX1_strengthAt_89 : decode cX1_strengthAt 89 = .ok (.iload 6, 2) := by decide +kernel
theorem dX1_strengthAt_91 : decode cX1_strengthAt 91 = .ok (.iadd, 1) := by decide +kernel
theorem dX1_strengthAt_92 : decode cX1_strengthAt 92 = .ok (.iconst 2, 1) := by decide +kernel
theorem dX1_strengthAt_93 : decode cX1_strengthAt 93 = .ok (.idiv, 1) := by decide +kernel
theorem dX1_strengthAt_94 : decode cX1_strengthAt 94 = .ok (.goto 10, 3) := by decide +kernel
theorem dX1_strengthAt_97 : decode cX1_strengthAt 97 = .ok (.iconst 2, 1) := by decide +kernel
theorem dX1_strengthAt_98 : decode cX1_strengthAt 98 = .ok (.iload 7, 2) := by decide +kernel
theorem dX1_strengthAt_100 : decode cX1_strengthAt 100 = .ok (.imul, 1) := by decide +kernel
theorem dX1_strengthAt_101 : decode cX1_strengthAt 101 = .ok (.iload 6, 2) := by decide +kernel
theorem dX1_strengthAt_103 : decode cX1_strengthAt 103 = .ok (.iadd, 1) := by decide +kernel
theorem dX1_strengthAt_104 : decode cX1_strengthAt 104 = .ok (.ireturn, 1) := by decide +kernel
theorem dX1_strengthAt_105 : decode cX1_strengthAt 105 = .ok (.aload_n 0, 1) := by decide +kernel
theorem dX1_strengthAt_106 : decode cX1_strengthAt 106 = .ok (.getfield 57, 3) := by decide +kernel
theorem dX1_strengthAt_109 : decode cX1_strengthAt 109 = .ok (.getfield 119, 3) := by decide +kernel
theorem dX1_strengthAt_112 : decode cX1_strengthAt 112 = .ok (.iconst 0, 1) := by decide +kernel
theorem dX1_strengthAt_113 : decode cX1_strengthAt 113 = .ok (.aload_n 0, 1) := by decide +kernel
theorem dX1_strengthAt_114 : decode cX1_strengthAt 114 = .ok (.getfield 53, 3) := by decide +kernel
theorem dX1_strengthAt_117 : decode cX1_strengthAt 117 = .ok (.iload 4, 2) := by decide +kernel
theorem dX1_strengthAt_119 : decode cX1_strengthAt 119 = .ok (.iconst 0, 1) := by decide +kernel
theorem dX1_strengthAt_120 : decode cX1_strengthAt 120 = .ok (.invokevirtual 107, 3) := by decide +kernel
theorem dX1_strengthAt_123 : decode cX1_strengthAt 123 = .ok (.iastore, 1) := by decide +kernel
theorem dX1_strengthAt_124 : decode cX1_strengthAt 124 = .ok (.aload_n 0, 1) := by decide +kernel
theorem dX1_strengthAt_125 : decode cX1_strengthAt 125 = .ok (.getfield 57, 3) := by decide +kernel
theorem dX1_strengthAt_128 : decode cX1_strengthAt 128 = .ok (.getfield 119, 3) := by decide +kernel
theorem dX1_strengthAt_131 : decode cX1_strengthAt 131 = .ok (.iconst 1, 1) := by decide +kernel
theorem dX1_strengthAt_132 : decode cX1_strengthAt 132 = .ok (.iload 7, 2) := by decide +kernel
theorem dX1_strengthAt_134 : decode cX1_strengthAt 134 = .ok (.iastore, 1) := by decide +kernel
theorem dX1_strengthAt_135 : decode cX1_strengthAt 135 = .ok (.aload_n 0, 1) := by decide +kernel
theorem dX1_strengthAt_136 : decode cX1_strengthAt 136 = .ok (.getfield 57, 3) := by decide +kernel
theorem dX1_strengthAt_139 : decode cX1_strengthAt 139 = .ok (.getfield 119, 3) := by decide +kernel
theorem dX1_strengthAt_142 : decode cX1_strengthAt 142 = .ok (.iconst 2, 1) := by decide +kernel
theorem dX1_strengthAt_143 : decode cX1_strengthAt 143 = .ok (.aload_n 0, 1) := by decide +kernel
theorem dX1_strengthAt_144 : decode cX1_strengthAt 144 = .ok (.getfield 53, 3) := by decide +kernel
theorem dX1_strengthAt_147 : decode cX1_strengthAt 147 = .ok (.iload 4, 2) := by decide +kernel
theorem dX1_strengthAt_149 : decode cX1_strengthAt 149 = .ok (.iconst 2, 1) := by decide +kernel
theorem dX1_strengthAt_150 : decode cX1_strengthAt 150 = .ok (.invokevirtual 107, 3) := by decide +kernel
theorem dX1_strengthAt_153 : decode cX1_strengthAt 153 = .ok (.iastore, 1) := by decide +kernel
theorem dX1_strengthAt_154 : decode cX1_strengthAt 154 = .ok (.aload_n 0, 1) := by decide +kernel
theorem dX1_strengthAt_155 : decode cX1_strengthAt 155 = .ok (.getfield 57, 3) := by decide +kernel
theorem dX1_strengthAt_158 : decode cX1_strengthAt 158 = .ok (.getfield 119, 3) := by decide +kernel
theorem dX1_strengthAt_161 : decode cX1_strengthAt 161 = .ok (.iconst 3, 1) := by decide +kernel
theorem dX1_strengthAt_162 : decode cX1_strengthAt 162 = .ok (.iload 6, 2) := by decide +kernel
theorem dX1_strengthAt_164 : decode cX1_strengthAt 164 = .ok (.iastore, 1) := by decide +kernel
theorem dX1_strengthAt_165 : decode cX1_strengthAt 165 = .ok (.aload_n 0, 1) := by decide +kernel
theorem dX1_strengthAt_166 : decode cX1_strengthAt 166 = .ok (.getfield 57, 3) := by decide +kernel
theorem dX1_strengthAt_169 : decode cX1_strengthAt 169 = .ok (.getfield 119, 3) := by decide +kernel
theorem dX1_strengthAt_172 : decode cX1_strengthAt 172 = .ok (.iconst 4, 1) := by decide +kernel
theorem dX1_strengthAt_173 : decode cX1_strengthAt 173 = .ok (.iload 5, 2) := by decide +kernel
theorem dX1_strengthAt_175 : decode cX1_strengthAt 175 = .ok (.ifCond .eq 12, 3) := by decide +kernel
theorem dX1_strengthAt_178 : decode cX1_strengthAt 178 = .ok (.aload_n 0, 1) := by decide +kernel
theorem dX1_strengthAt_179 : decode cX1_strengthAt 179 = .ok (.getfield 18, 3) := by decide +kernel
theorem dX1_strengthAt_182 : decode cX1_strengthAt 182 = .ok (.iload_n 2, 1) := by decide +kernel
theorem dX1_strengthAt_183 : decode cX1_strengthAt 183 = .ok (.iaload, 1) := by decide +kernel
theorem dX1_strengthAt_184 : decode cX1_strengthAt 184 = .ok (.goto 9, 3) := by decide +kernel
theorem dX1_strengthAt_187 : decode cX1_strengthAt 187 = .ok (.aload_n 0, 1) := by decide +kernel
theorem dX1_strengthAt_188 : decode cX1_strengthAt 188 = .ok (.getfield 15, 3) := by decide +kernel
theorem dX1_strengthAt_191 : decode cX1_strengthAt 191 = .ok (.iload_n 2, 1) := by decide +kernel
theorem dX1_strengthAt_192 : decode cX1_strengthAt 192 = .ok (.iaload, 1) := by decide +kernel
theorem dX1_strengthAt_193 : decode cX1_strengthAt 193 = .ok (.iastore, 1) := by decide +kernel
theorem dX1_strengthAt_194 : decode cX1_strengthAt 194 = .ok (.aload_n 0, 1) := by decide +kernel
theorem dX1_strengthAt_195 : decode cX1_strengthAt 195 = .ok (.getfield 57, 3) := by decide +kernel
theorem dX1_strengthAt_198 : decode cX1_strengthAt 198 = .ok (.getfield 119, 3) := by decide +kernel
theorem dX1_strengthAt_201 : decode cX1_strengthAt 201 = .ok (.iconst 5, 1) := by decide +kernel
theorem dX1_strengthAt_202 : decode cX1_strengthAt 202 = .ok (.iload 8, 2) := by decide +kernel
theorem dX1_strengthAt_204 : decode cX1_strengthAt 204 = .ok (.iastore, 1) := by decide +kernel
theorem dX1_strengthAt_205 : decode cX1_strengthAt 205 = .ok (.aload_n 0, 1) := by decide +kernel
theorem dX1_strengthAt_206 : decode cX1_strengthAt 206 = .ok (.getfield 57, 3) := by decide +kernel
theorem dX1_strengthAt_209 : decode cX1_strengthAt 209 = .ok (.getfield 119, 3) := by decide +kernel
theorem dX1_strengthAt_212 : decode cX1_strengthAt 212 = .ok (.bipush 6, 2) := by decide +kernel
theorem dX1_strengthAt_214 : decode cX1_strengthAt 214 = .ok (.aload_n 0, 1) := by decide +kernel
theorem dX1_strengthAt_215 : decode cX1_strengthAt 215 = .ok (.getfield 53, 3) := by decide +kernel
theorem dX1_strengthAt_218 : decode cX1_strengthAt 218 = .ok (.iload_n 1, 1) := by decide +kernel
theorem dX1_strengthAt_219 : decode cX1_strengthAt 219 = .ok (.iconst 1, 1) := by decide +kernel
theorem dX1_strengthAt_220 : decode cX1_strengthAt 220 = .ok (.isub, 1) := by decide +kernel
theorem dX1_strengthAt_221 : decode cX1_strengthAt 221 = .ok (.invokevirtual 122, 3) := by decide +kernel
theorem dX1_strengthAt_224 : decode cX1_strengthAt 224 = .ok (.ifCond .eq 18, 3) := by decide +kernel
theorem dX1_strengthAt_227 : decode cX1_strengthAt 227 = .ok (.aload_n 0, 1) := by decide +kernel
theorem dX1_strengthAt_228 : decode cX1_strengthAt 228 = .ok (.getfield 53, 3) := by decide +kernel
theorem dX1_strengthAt_231 : decode cX1_strengthAt 231 = .ok (.iload_n 1, 1) := by decide +kernel
theorem dX1_strengthAt_232 : decode cX1_strengthAt 232 = .ok (.invokevirtual 122, 3) := by decide +kernel
theorem dX1_strengthAt_235 : decode cX1_strengthAt 235 = .ok (.ifCond .eq 7, 3) := by decide +kernel
theorem dX1_strengthAt_238 : decode cX1_strengthAt 238 = .ok (.iconst 1, 1) := by decide +kernel
theorem dX1_strengthAt_239 : decode cX1_strengthAt 239 = .ok (.goto 4, 3) := by decide +kernel
theorem dX1_strengthAt_242 : decode cX1_strengthAt 242 = .ok (.iconst 0, 1) := by decide +kernel
theorem dX1_strengthAt_243 : decode cX1_strengthAt 243 = .ok (.iastore, 1) := by decide +kernel
theorem dX1_strengthAt_244 : decode cX1_strengthAt 244 = .ok (.aload_n 0, 1) := by decide +kernel
theorem dX1_strengthAt_245 : decode cX1_strengthAt 245 = .ok (.getfield 57, 3) := by decide +kernel
theorem dX1_strengthAt_248 : decode cX1_strengthAt 248 = .ok (.getfield 119, 3) := by decide +kernel
theorem dX1_strengthAt_251 : decode cX1_strengthAt 251 = .ok (.bipush 7, 2) := by decide +kernel
theorem dX1_strengthAt_253 : decode cX1_strengthAt 253 = .ok (.iload_n 3, 1) := by decide +kernel
theorem dX1_strengthAt_254 : decode cX1_strengthAt 254 = .ok (.iastore, 1) := by decide +kernel
theorem dX1_strengthAt_255 : decode cX1_strengthAt 255 = .ok (.aload_n 0, 1) := by decide +kernel
theorem dX1_strengthAt_256 : decode cX1_strengthAt 256 = .ok (.getfield 57, 3) := by decide +kernel
theorem dX1_strengthAt_259 : decode cX1_strengthAt 259 = .ok (.getfield 119, 3) := by decide +kernel
theorem dX1_strengthAt_262 : decode cX1_strengthAt 262 = .ok (.bipush 8, 2) := by decide +kernel
theorem dX1_strengthAt_264 : decode cX1_strengthAt 264 = .ok (.aload_n 0, 1) := by decide +kernel
theorem dX1_strengthAt_265 : decode cX1_strengthAt 265 = .ok (.getfield 40, 3) := by decide +kernel
theorem dX1_strengthAt_268 : decode cX1_strengthAt 268 = .ok (.iastore, 1) := by decide +kernel
theorem dX1_strengthAt_269 : decode cX1_strengthAt 269 = .ok (.aload_n 0, 1) := by decide +kernel
theorem dX1_strengthAt_270 : decode cX1_strengthAt 270 = .ok (.getfield 57, 3) := by decide +kernel
theorem dX1_strengthAt_273 : decode cX1_strengthAt 273 = .ok (.invokevirtual 125, 3) := by decide +kernel
theorem dX1_strengthAt_276 : decode cX1_strengthAt 276 = .ok (.ireturn, 1) := by decide +kernel
theorem dX1_meet_0 : decode cX1_meet 0 = .ok (.aload_n 0, 1) := by decide +kernel
theorem dX1_meet_1 : decode cX1_meet 1 = .ok (.getfield 53, 3) := by decide +kernel
theorem dX1_meet_4 : decode cX1_meet 4 = .ok (.aload_n 0, 1) := by decide +kernel
theorem dX1_meet_5 : decode cX1_meet 5 = .ok (.getfield 30, 3) := by decide +kernel
theorem dX1_meet_8 : decode cX1_meet 8 = .ok (.iload_n 1, 1) := by decide +kernel
theorem dX1_meet_9 : decode cX1_meet 9 = .ok (.iaload, 1) := by decide +kernel
theorem dX1_meet_10 : decode cX1_meet 10 = .ok (.aload_n 0, 1) := by decide +kernel
theorem dX1_meet_11 : decode cX1_meet 11 = .ok (.getfield 40, 3) := by decide +kernel
theorem dX1_meet_14 : decode cX1_meet 14 = .ok (.invokevirtual 128, 3) := by decide +kernel
theorem dX1_meet_17 : decode cX1_meet 17 = .ok (.istore_n 2, 1) := by decide +kernel
theorem dX1_meet_18 : decode cX1_meet 18 = .ok (.aload_n 0, 1) := by decide +kernel
theorem dX1_meet_19 : decode cX1_meet 19 = .ok (.getfield 53, 3) := by decide +kernel
theorem dX1_meet_22 : decode cX1_meet 22 = .ok (.aload_n 0, 1) := by decide +kernel
theorem dX1_meet_23 : decode cX1_meet 23 = .ok (.getfield 30, 3) := by decide +kernel
theorem dX1_meet_26 : decode cX1_meet 26 = .ok (.iload_n 1, 1) := by decide +kernel
theorem dX1_meet_27 : decode cX1_meet 27 = .ok (.iconst 1, 1) := by decide +kernel
theorem dX1_meet_28 : decode cX1_meet 28 = .ok (.iadd, 1) := by decide +kernel
theorem dX1_meet_29 : decode cX1_meet 29 = .ok (.iaload, 1) := by decide +kernel
theorem dX1_meet_30 : decode cX1_meet 30 = .ok (.aload_n 0, 1) := by decide +kernel
theorem dX1_meet_31 : decode cX1_meet 31 = .ok (.getfield 40, 3) := by decide +kernel
theorem dX1_meet_34 : decode cX1_meet 34 = .ok (.invokevirtual 128, 3) := by decide +kernel
theorem dX1_meet_37 : decode cX1_meet 37 = .ok (.istore_n 3, 1) := by decide +kernel
theorem dX1_meet_38 : decode cX1_meet 38 = .ok (.iload_n 2, 1) := by decide +kernel
theorem dX1_meet_39 : decode cX1_meet 39 = .ok (.ifCond .ne 12, 3) := by decide +kernel
theorem dX1_meet_42 : decode cX1_meet 42 = .ok (.aload_n 0, 1) := by decide +kernel
theorem dX1_meet_43 : decode cX1_meet 43 = .ok (.aload_n 0, 1) := by decide +kernel
theorem dX1_meet_44 : decode cX1_meet 44 = .ok (.getfield 15, 3) := by decide +kernel
theorem dX1_meet_47 : decode cX1_meet 47 = .ok (.iload_n 1, 1) := by decide +kernel
theorem dX1_meet_48 : decode cX1_meet 48 = .ok (.invokevirtual 132, 3) := by decide +kernel
theorem dX1_meet_51 : decode cX1_meet 51 = .ok (.iload_n 3, 1) := by decide +kernel
theorem dX1_meet_52 : decode cX1_meet 52 = .ok (.ifCond .ne 12, 3) := by decide +kernel
theorem dX1_meet_55 : decode cX1_meet 55 = .ok (.aload_n 0, 1) := by decide +kernel
theorem dX1_meet_56 : decode cX1_meet 56 = .ok (.aload_n 0, 1) := by decide +kernel
theorem dX1_meet_57 : decode cX1_meet 57 = .ok (.getfield 18, 3) := by decide +kernel
theorem dX1_meet_60 : decode cX1_meet 60 = .ok (.iload_n 1, 1) := by decide +kernel
theorem dX1_meet_61 : decode cX1_meet 61 = .ok (.invokevirtual 132, 3) := by decide +kernel
theorem dX1_meet_64 : decode cX1_meet 64 = .ok (.iload_n 2, 1) := by decide +kernel
theorem dX1_meet_65 : decode cX1_meet 65 = .ok (.ifCond .eq 15, 3) := by decide +kernel
theorem dX1_meet_68 : decode cX1_meet 68 = .ok (.iload_n 3, 1) := by decide +kernel
theorem dX1_meet_69 : decode cX1_meet 69 = .ok (.ifCond .eq 11, 3) := by decide +kernel
theorem dX1_meet_72 : decode cX1_meet 72 = .ok (.aload_n 0, 1) := by decide +kernel
theorem dX1_meet_73 : decode cX1_meet 73 = .ok (.iload_n 1, 1) := by decide +kernel
theorem dX1_meet_74 : decode cX1_meet 74 = .ok (.invokevirtual 135, 3) := by decide +kernel
theorem dX1_meet_77 : decode cX1_meet 77 = .ok (.goto 34, 3) := by decide +kernel
theorem dX1_meet_80 : decode cX1_meet 80 = .ok (.iload_n 2, 1) := by decide +kernel
theorem dX1_meet_81 : decode cX1_meet 81 = .ok (.ifCond .eq 16, 3) := by decide +kernel
theorem dX1_meet_84 : decode cX1_meet 84 = .ok (.aload_n 0, 1) := by decide +kernel
theorem dX1_meet_85 : decode cX1_meet 85 = .ok (.aload_n 0, 1) := by decide +kernel
theorem dX1_meet_86 : decode cX1_meet 86 = .ok (.getfield 15, 3) := by decide +kernel
theorem dX1_meet_89 : decode cX1_meet 89 = .ok (.iload_n 1, 1) := by decide +kernel
theorem dX1_meet_90 : decode cX1_meet 90 = .ok (.invokevirtual 138, 3) := by decide +kernel
theorem dX1_meet_93 : decode cX1_meet 93 = .ok (.pop, 1) := by decide +kernel
theorem dX1_meet_94 : decode cX1_meet 94 = .ok (.goto 17, 3) := by decide +kernel
theorem dX1_meet_97 : decode cX1_meet 97 = .ok (.iload_n 3, 1) := by decide +kernel
theorem dX1_meet_98 : decode cX1_meet 98 = .ok (.ifCond .eq 13, 3) := by decide +kernel
theorem dX1_meet_101 : decode cX1_meet 101 = .ok (.aload_n 0, 1) := by decide +kernel
theorem dX1_meet_102 : decode cX1_meet 102 = .ok (.aload_n 0, 1) := by decide +kernel
theorem dX1_meet_103 : decode cX1_meet 103 = .ok (.getfield 18, 3) := by decide +kernel
theorem dX1_meet_106 : decode cX1_meet 106 = .ok (.iload_n 1, 1) := by decide +kernel
theorem dX1_meet_107 : decode cX1_meet 107 = .ok (.invokevirtual 138, 3) := by decide +kernel
theorem dX1_meet_110 : decode cX1_meet 110 = .ok (.pop, 1) := by decide +kernel
theorem dX1_meet_111 : decode cX1_meet 111 = .ok (.return_, 1) := by decide +kernel
theorem dX1_leave_0 : decode cX1_leave 0 = .ok (.aload_n 1, 1) := by decide +kernel
theorem dX1_leave_1 : decode cX1_leave 1 = .ok (.iload_n 2, 1) := by decide +kernel
theorem dX1_leave_2 : decode cX1_leave 2 = .ok (.iaload, 1) := by decide +kernel
theorem dX1_leave_3 : decode cX1_leave 3 = .ok (.ifCond .ne 4, 3) := by decide +kernel
theorem dX1_leave_6 : decode cX1_leave 6 = .ok (.return_, 1) := by decide +kernel
theorem dX1_leave_7 : decode cX1_leave 7 = .ok (.aload_n 1, 1) := by decide +kernel
theorem dX1_leave_8 : decode cX1_leave 8 = .ok (.iload_n 2, 1) := by decide +kernel
theorem dX1_leave_9 : decode cX1_leave 9 = .ok (.iconst 0, 1) := by decide +kernel
theorem dX1_leave_10 : decode cX1_leave 10 = .ok (.iastore, 1) := by decide +kernel
theorem dX1_leave_11 : decode cX1_leave 11 = .ok (.aload_n 0, 1) := by decide +kernel
theorem dX1_leave_12 : decode cX1_leave 12 = .ok (.iconst 1, 1) := by decide +kernel
theorem dX1_leave_13 : decode cX1_leave 13 = .ok (.putfield 36, 3) := by decide +kernel
theorem dX1_leave_16 : decode cX1_leave 16 = .ok (.return_, 1) := by decide +kernel
theorem dX1_takeFree_0 : decode cX1_takeFree 0 = .ok (.aload_n 0, 1) := by decide +kernel
theorem dX1_takeFree_1 : decode cX1_takeFree 1 = .ok (.iload_n 2, 1) := by decide +kernel
theorem dX1_takeFree_2 : decode cX1_takeFree 2 = .ok (.invokevirtual 142, 3) := by decide +kernel
theorem dX1_takeFree_5 : decode cX1_takeFree 5 = .ok (.ifCond .gt 5, 3) := by decide +kernel
theorem dX1_takeFree_8 : decode cX1_takeFree 8 = .ok (.iconst 0, 1) := by decide +kernel
theorem dX1_takeFree_9 : decode cX1_takeFree 9 = .ok (.ireturn, 1) := by decide +kernel
theorem dX1_takeFree_10 : decode cX1_takeFree 10 = .ok (.aload_n 1, 1) := by decide +kernel
theorem dX1_takeFree_11 : decode cX1_takeFree 11 = .ok (.iload_n 2, 1) := by decide +kernel
theorem dX1_takeFree_12 : decode cX1_takeFree 12 = .ok (.dup2, 1) := by decide +kernel
theorem dX1_takeFree_13 : decode cX1_takeFree 13 = .ok (.iaload, 1) := by decide +kernel
theorem dX1_takeFree_14 : decode cX1_takeFree 14 = .ok (.iconst 1, 1) := by decide +kernel
theorem dX1_takeFree_15 : decode cX1_takeFree 15 = .ok (.iadd, 1) := by decide +kernel
theorem dX1_takeFree_16 : decode cX1_takeFree 16 = .ok (.iastore, 1) := by decide +kernel
theorem dX1_takeFree_17 : decode cX1_takeFree 17 = .ok (.aload_n 0, 1) := by decide +kernel
theorem dX1_takeFree_18 : decode cX1_takeFree 18 = .ok (.iconst 1, 1) := by decide +kernel
theorem dX1_takeFree_19 : decode cX1_takeFree 19 = .ok (.putfield 36, 3) := by decide +kernel
theorem dX1_takeFree_22 : decode cX1_takeFree 22 = .ok (.iconst 1, 1) := by decide +kernel
theorem dX1_takeFree_23 : decode cX1_takeFree 23 = .ok (.ireturn, 1) := by decide +kernel
theorem dX1_contend_0 : decode cX1_contend 0 = .ok (.aload_n 0, 1) := by decide +kernel
theorem dX1_contend_1 : decode cX1_contend 1 = .ok (.iload_n 1, 1) := by decide +kernel
theorem dX1_contend_2 : decode cX1_contend 2 = .ok (.iload_n 1, 1) := by decide +kernel
theorem dX1_contend_3 : decode cX1_contend 3 = .ok (.aload_n 0, 1) := by decide +kernel
theorem dX1_contend_4 : decode cX1_contend 4 = .ok (.invokevirtual 145, 3) := by decide +kernel
theorem dX1_contend_7 : decode cX1_contend 7 = .ok (.invokevirtual 148, 3) := by decide +kernel
theorem dX1_contend_10 : decode cX1_contend 10 = .ok (.istore_n 2, 1) := by decide +kernel
theorem dX1_contend_11 : decode cX1_contend 11 = .ok (.aload_n 0, 1) := by decide +kernel
theorem dX1_contend_12 : decode cX1_contend 12 = .ok (.iload_n 1, 1) := by decide +kernel
theorem dX1_contend_13 : decode cX1_contend 13 = .ok (.iconst 1, 1) := by decide +kernel
theorem dX1_contend_14 : decode cX1_contend 14 = .ok (.iadd, 1) := by decide +kernel
theorem dX1_contend_15 : decode cX1_contend 15 = .ok (.iload_n 1, 1) := by decide +kernel
theorem dX1_contend_16 : decode cX1_contend 16 = .ok (.aload_n 0, 1) := by decide +kernel
theorem dX1_contend_17 : decode cX1_contend 17 = .ok (.invokevirtual 145, 3) := by decide +kernel
theorem dX1_contend_20 : decode cX1_contend 20 = .ok (.invokevirtual 148, 3) := by decide +kernel
theorem dX1_contend_23 : decode cX1_contend 23 = .ok (.istore_n 3, 1) := by decide +kernel
theorem dX1_contend_24 : decode cX1_contend 24 = .ok (.iload_n 2, 1) := by decide +kernel
theorem dX1_contend_25 : decode cX1_contend 25 = .ok (.iload_n 3, 1) := by decide +kernel
theorem dX1_contend_26 : decode cX1_contend 26 = .ok (.if_icmp .le 34, 3) := by decide +kernel
theorem dX1_contend_29 : decode cX1_contend 29 = .ok (.aload_n 0, 1) := by decide +kernel
theorem dX1_contend_30 : decode cX1_contend 30 = .ok (.aload_n 0, 1) := by decide +kernel
theorem dX1_contend_31 : decode cX1_contend 31 = .ok (.getfield 15, 3) := by decide +kernel
theorem dX1_contend_34 : decode cX1_contend 34 = .ok (.iload_n 1, 1) := by decide +kernel
theorem dX1_contend_35 : decode cX1_contend 35 = .ok (.invokevirtual 138, 3) := by decide +kernel
theorem dX1_contend_38 : decode cX1_contend 38 = .ok (.ifCond .ne 22, 3) := by decide +kernel
theorem dX1_contend_41 : decode cX1_contend 41 = .ok (.aload_n 0, 1) := by decide +kernel
theorem dX1_contend_42 : decode cX1_contend 42 = .ok (.aload_n 0, 1) := by decide +kernel
theorem dX1_contend_43 : decode cX1_contend 43 = .ok (.getfield 15, 3) := by decide +kernel
theorem dX1_contend_46 : decode cX1_contend 46 = .ok (.aload_n 0, 1) := by decide +kernel
theorem dX1_contend_47 : decode cX1_contend 47 = .ok (.getfield 18, 3) := by decide +kernel
theorem dX1_contend_50 : decode cX1_contend 50 = .ok (.iload_n 1, 1) := by decide +kernel
theorem dX1_contend_51 : decode cX1_contend 51 = .ok (.iload_n 1, 1) := by decide +kernel
theorem dX1_contend_52 : decode cX1_contend 52 = .ok (.iconst 1, 1) := by decide +kernel
theorem dX1_contend_53 : decode cX1_contend 53 = .ok (.iadd, 1) := by decide +kernel
theorem dX1_contend_54 : decode cX1_contend 54 = .ok (.iload_n 2, 1) := by decide +kernel
theorem dX1_contend_55 : decode cX1_contend 55 = .ok (.iload_n 3, 1) := by decide +kernel
theorem dX1_contend_56 : decode cX1_contend 56 = .ok (.isub, 1) := by decide +kernel
theorem dX1_contend_57 : decode cX1_contend 57 = .ok (.invokevirtual 152, 3) := by decide +kernel
theorem dX1_contend_60 : decode cX1_contend 60 = .ok (.iload_n 3, 1) := by decide +kernel
theorem dX1_contend_61 : decode cX1_contend 61 = .ok (.iload_n 2, 1) := by decide +kernel
theorem dX1_contend_62 : decode cX1_contend 62 = .ok (.if_icmp .le 32, 3) := by decide +kernel
theorem dX1_contend_65 : decode cX1_contend 65 = .ok (.aload_n 0, 1) := by decide +kernel
theorem dX1_contend_66 : decode cX1_contend 66 = .ok (.aload_n 0, 1) := by decide +kernel
theorem dX1_contend_67 : decode cX1_contend 67 = .ok (.getfield 18, 3) := by decide +kernel
theorem dX1_contend_70 : decode cX1_contend 70 = .ok (.iload_n 1, 1) := by decide +kernel
theorem dX1_contend_71 : decode cX1_contend 71 = .ok (.invokevirtual 138, 3) := by decide +kernel
theorem dX1_contend_74 : decode cX1_contend 74 = .ok (.ifCond .ne 20, 3) := by decide +kernel
theorem dX1_contend_77 : decode cX1_contend 77 = .ok (.aload_n 0, 1) := by decide +kernel
theorem dX1_contend_78 : decode cX1_contend 78 = .ok (.aload_n 0, 1) := by decide +kernel
theorem dX1_contend_79 : decode cX1_contend 79 = .ok (.getfield 18, 3) := by decide +kernel
theorem dX1_contend_82 : decode cX1_contend 82 = .ok (.aload_n 0, 1) := by decide +kernel
theorem dX1_contend_83 : decode cX1_contend 83 = .ok (.getfield 15, 3) := by decide +kernel
theorem dX1_contend_86 : decode cX1_contend 86 = .ok (.iload_n 1, 1) := by decide +kernel
theorem dX1_contend_87 : decode cX1_contend 87 = .ok (.iload_n 1, 1) := by decide +kernel
theorem dX1_contend_88 : decode cX1_contend 88 = .ok (.iload_n 3, 1) := by decide +kernel
theorem dX1_contend_89 : decode cX1_contend 89 = .ok (.iload_n 2, 1) := by decide +kernel
theorem dX1_contend_90 : decode cX1_contend 90 = .ok (.isub, 1) := by decide +kernel
theorem dX1_contend_91 : decode cX1_contend 91 = .ok (.invokevirtual 152, 3) := by decide +kernel
theorem dX1_contend_94 : decode cX1_contend 94 = .ok (.return_, 1) := by decide +kernel
theorem dX1_wrest_0 : decode cX1_wrest 0 = .ok (.aload_n 2, 1) := by decide +kernel
theorem dX1_wrest_1 : decode cX1_wrest 1 = .ok (.iload_n 3, 1) := by decide +kernel
theorem dX1_wrest_2 : decode cX1_wrest 2 = .ok (.iaload, 1) := by decide +kernel
theorem dX1_wrest_3 : decode cX1_wrest 3 = .ok (.ifCond .eq 23, 3) := by decide +kernel
theorem dX1_wrest_6 : decode cX1_wrest 6 = .ok (.iload 5, 2) := by decide +kernel
theorem dX1_wrest_8 : decode cX1_wrest 8 = .ok (.aload_n 0, 1) := by decide +kernel
theorem dX1_wrest_9 : decode cX1_wrest 9 = .ok (.getfield 53, 3) := by decide +kernel
theorem dX1_wrest_12 : decode cX1_wrest 12 = .ok (.aload_n 0, 1) := by decide +kernel
theorem dX1_wrest_13 : decode cX1_wrest 13 = .ok (.getfield 30, 3) := by decide +kernel
theorem dX1_wrest_16 : decode cX1_wrest 16 = .ok (.iload 4, 2) := by decide +kernel
theorem dX1_wrest_18 : decode cX1_wrest 18 = .ok (.iaload, 1) := by decide +kernel
theorem dX1_wrest_19 : decode cX1_wrest 19 = .ok (.iconst 2, 1) := by decide +kernel
theorem dX1_wrest_20 : decode cX1_wrest 20 = .ok (.invokevirtual 107, 3) := by decide +kernel
theorem dX1_wrest_23 : decode cX1_wrest 23 = .ok (.if_icmp .gt 4, 3) := by decide +kernel
theorem dX1_wrest_26 : decode cX1_wrest 26 = .ok (.return_, 1) := by decide +kernel
theorem dX1_wrest_27 : decode cX1_wrest 27 = .ok (.aload_n 2, 1) := by decide +kernel
theorem dX1_wrest_28 : decode cX1_wrest 28 = .ok (.iload_n 3, 1) := by decide +kernel
theorem dX1_wrest_29 : decode cX1_wrest 29 = .ok (.dup2, 1) := by decide +kernel
theorem dX1_wrest_30 : decode cX1_wrest 30 = .ok (.iaload, 1) := by decide +kernel
theorem dX1_wrest_31 : decode cX1_wrest 31 = .ok (.iconst 1, 1) := by decide +kernel
theorem dX1_wrest_32 : decode cX1_wrest 32 = .ok (.isub, 1) := by decide +kernel
theorem dX1_wrest_33 : decode cX1_wrest 33 = .ok (.iastore, 1) := by decide +kernel
theorem dX1_wrest_34 : decode cX1_wrest 34 = .ok (.aload_n 1, 1) := by decide +kernel
theorem dX1_wrest_35 : decode cX1_wrest 35 = .ok (.iload_n 3, 1) := by decide +kernel
theorem dX1_wrest_36 : decode cX1_wrest 36 = .ok (.dup2, 1) := by decide +kernel
theorem dX1_wrest_37 : decode cX1_wrest 37 = .ok (.iaload, 1) := by decide +kernel
theorem dX1_wrest_38 : decode cX1_wrest 38 = .ok (.iconst 1, 1) := by decide +kernel
theorem dX1_wrest_39 : decode cX1_wrest 39 = .ok (.iadd, 1) := by decide +kernel
theorem dX1_wrest_40 : decode cX1_wrest 40 = .ok (.iastore, 1) := by decide +kernel
theorem dX1_wrest_41 : decode cX1_wrest 41 = .ok (.aload_n 0, 1) := by decide +kernel
theorem dX1_wrest_42 : decode cX1_wrest 42 = .ok (.getfield 33, 3) := by decide +kernel
theorem dX1_wrest_45 : decode cX1_wrest 45 = .ok (.iload 4, 2) := by decide +kernel
theorem dX1_wrest_47 : decode cX1_wrest 47 = .ok (.iconst 1, 1) := by decide +kernel
theorem dX1_wrest_48 : decode cX1_wrest 48 = .ok (.iastore, 1) := by decide +kernel
theorem dX1_wrest_49 : decode cX1_wrest 49 = .ok (.aload_n 0, 1) := by decide +kernel
theorem dX1_wrest_50 : decode cX1_wrest 50 = .ok (.getfield 21, 3) := by decide +kernel
theorem dX1_wrest_53 : decode cX1_wrest 53 = .ok (.iload_n 3, 1) := by decide +kernel
theorem dX1_wrest_54 : decode cX1_wrest 54 = .ok (.iconst 1, 1) := by decide +kernel
theorem dX1_wrest_55 : decode cX1_wrest 55 = .ok (.iastore, 1) := by decide +kernel
theorem dX1_wrest_56 : decode cX1_wrest 56 = .ok (.aload_n 0, 1) := by decide +kernel
theorem dX1_wrest_57 : decode cX1_wrest 57 = .ok (.dup, 1) := by decide +kernel
theorem dX1_wrest_58 : decode cX1_wrest 58 = .ok (.getfield 44, 3) := by decide +kernel
theorem dX1_wrest_61 : decode cX1_wrest 61 = .ok (.iconst 1, 1) := by decide +kernel
theorem dX1_wrest_62 : decode cX1_wrest 62 = .ok (.iadd, 1) := by decide +kernel
theorem dX1_wrest_63 : decode cX1_wrest 63 = .ok (.putfield 44, 3) := by decide +kernel
theorem dX1_wrest_66 : decode cX1_wrest 66 = .ok (.aload_n 0, 1) := by decide +kernel
theorem dX1_wrest_67 : decode cX1_wrest 67 = .ok (.iconst 1, 1) := by decide +kernel
theorem dX1_wrest_68 : decode cX1_wrest 68 = .ok (.putfield 36, 3) := by decide +kernel
theorem dX1_wrest_71 : decode cX1_wrest 71 = .ok (.return_, 1) := by decide +kernel
theorem dX1_nextCough_0 : decode cX1_nextCough 0 = .ok (.aload_n 0, 1) := by decide +kernel
theorem dX1_nextCough_1 : decode cX1_nextCough 1 = .ok (.aload_n 0, 1) := by decide +kernel
theorem dX1_nextCough_2 : decode cX1_nextCough 2 = .ok (.getfield 47, 3) := by decide +kernel
theorem dX1_nextCough_5 : decode cX1_nextCough 5 = .ok (.ldc 156, 2) := by decide +kernel
theorem dX1_nextCough_7 : decode cX1_nextCough 7 = .ok (.imul, 1) := by decide +kernel
theorem dX1_nextCough_8 : decode cX1_nextCough 8 = .ok (.sipush 12345, 3) := by decide +kernel
theorem dX1_nextCough_11 : decode cX1_nextCough 11 = .ok (.iadd, 1) := by decide +kernel
theorem dX1_nextCough_12 : decode cX1_nextCough 12 = .ok (.putfield 47, 3) := by decide +kernel
theorem dX1_nextCough_15 : decode cX1_nextCough 15 = .ok (.aload_n 0, 1) := by decide +kernel
theorem dX1_nextCough_16 : decode cX1_nextCough 16 = .ok (.getfield 47, 3) := by decide +kernel
theorem dX1_nextCough_19 : decode cX1_nextCough 19 = .ok (.bipush 8, 2) := by decide +kernel
theorem dX1_nextCough_21 : decode cX1_nextCough 21 = .ok (.iushr, 1) := by decide +kernel
theorem dX1_nextCough_22 : decode cX1_nextCough 22 = .ok (.bipush 100, 2) := by decide +kernel
theorem dX1_nextCough_24 : decode cX1_nextCough 24 = .ok (.irem, 1) := by decide +kernel
theorem dX1_nextCough_25 : decode cX1_nextCough 25 = .ok (.ireturn, 1) := by decide +kernel
theorem dX1_inchesOfSeat_0 : decode cX1_inchesOfSeat 0 = .ok (.aload_n 0, 1) := by decide +kernel
theorem dX1_inchesOfSeat_1 : decode cX1_inchesOfSeat 1 = .ok (.getfield 53, 3) := by decide +kernel
theorem dX1_inchesOfSeat_4 : decode cX1_inchesOfSeat 4 = .ok (.iload_n 1, 1) := by decide +kernel
theorem dX1_inchesOfSeat_5 : decode cX1_inchesOfSeat 5 = .ok (.invokevirtual 122, 3) := by decide +kernel
theorem dX1_inchesOfSeat_8 : decode cX1_inchesOfSeat 8 = .ok (.ifCond .eq 12, 3) := by decide +kernel
theorem dX1_inchesOfSeat_11 : decode cX1_inchesOfSeat 11 = .ok (.aload_n 0, 1) := by decide +kernel
theorem dX1_inchesOfSeat_12 : decode cX1_inchesOfSeat 12 = .ok (.getfield 15, 3) := by decide +kernel
theorem dX1_inchesOfSeat_15 : decode cX1_inchesOfSeat 15 = .ok (.iload_n 1, 1) := by decide +kernel
theorem dX1_inchesOfSeat_16 : decode cX1_inchesOfSeat 16 = .ok (.iaload, 1) := by decide +kernel
theorem dX1_inchesOfSeat_17 : decode cX1_inchesOfSeat 17 = .ok (.goto 4, 3) := by decide +kernel
theorem dX1_inchesOfSeat_20 : decode cX1_inchesOfSeat 20 = .ok (.iconst 0, 1) := by decide +kernel
theorem dX1_inchesOfSeat_21 : decode cX1_inchesOfSeat 21 = .ok (.istore_n 2, 1) := by decide +kernel
theorem dX1_inchesOfSeat_22 : decode cX1_inchesOfSeat 22 = .ok (.aload_n 0, 1) := by decide +kernel
theorem dX1_inchesOfSeat_23 : decode cX1_inchesOfSeat 23 = .ok (.getfield 53, 3) := by decide +kernel
theorem dX1_inchesOfSeat_26 : decode cX1_inchesOfSeat 26 = .ok (.iload_n 1, 1) := by decide +kernel
theorem dX1_inchesOfSeat_27 : decode cX1_inchesOfSeat 27 = .ok (.iconst 1, 1) := by decide +kernel
theorem dX1_inchesOfSeat_28 : decode cX1_inchesOfSeat 28 = .ok (.isub, 1) := by decide +kernel
theorem dX1_inchesOfSeat_29 : decode cX1_inchesOfSeat 29 = .ok (.invokevirtual 122, 3) := by decide +kernel
theorem dX1_inchesOfSeat_32 : decode cX1_inchesOfSeat 32 = .ok (.ifCond .eq 16, 3) := by decide +kernel
theorem dX1_inchesOfSeat_35 : decode cX1_inchesOfSeat 35 = .ok (.iload_n 2, 1) := by decide +kernel
theorem dX1_inchesOfSeat_36 : decode cX1_inchesOfSeat 36 = .ok (.aload_n 0, 1) := by decide +kernel
theorem dX1_inchesOfSeat_37 : decode cX1_inchesOfSeat 37 = .ok (.getfield 18, 3) := by decide +kernel
theorem dX1_inchesOfSeat_40 : decode cX1_inchesOfSeat 40 = .ok (.iload_n 1, 1) := by decide +kernel
theorem dX1_inchesOfSeat_41 : decode cX1_inchesOfSeat 41 = .ok (.iconst 1, 1) := by decide +kernel
theorem dX1_inchesOfSeat_42 : decode cX1_inchesOfSeat 42 = .ok (.isub, 1) := by decide +kernel
theorem dX1_inchesOfSeat_43 : decode cX1_inchesOfSeat 43 = .ok (.iaload, 1) := by decide +kernel
theorem dX1_inchesOfSeat_44 : decode cX1_inchesOfSeat 44 = .ok (.iadd, 1) := by decide +kernel
theorem dX1_inchesOfSeat_45 : decode cX1_inchesOfSeat 45 = .ok (.goto 4, 3) := by decide +kernel
theorem dX1_inchesOfSeat_48 : decode cX1_inchesOfSeat 48 = .ok (.iload_n 2, 1) := by decide +kernel
theorem dX1_inchesOfSeat_49 : decode cX1_inchesOfSeat 49 = .ok (.ireturn, 1) := by decide +kernel
theorem dX1_fightsOfSeat_0 : decode cX1_fightsOfSeat 0 = .ok (.aload_n 0, 1) := by decide +kernel
theorem dX1_fightsOfSeat_1 : decode cX1_fightsOfSeat 1 = .ok (.getfield 53, 3) := by decide +kernel
theorem dX1_fightsOfSeat_4 : decode cX1_fightsOfSeat 4 = .ok (.iload_n 1, 1) := by decide +kernel
theorem dX1_fightsOfSeat_5 : decode cX1_fightsOfSeat 5 = .ok (.invokevirtual 122, 3) := by decide +kernel
theorem dX1_fightsOfSeat_8 : decode cX1_fightsOfSeat 8 = .ok (.ifCond .eq 12, 3) := by decide +kernel
theorem dX1_fightsOfSeat_11 : decode cX1_fightsOfSeat 11 = .ok (.aload_n 0, 1) := by decide +kernel
theorem dX1_fightsOfSeat_12 : decode cX1_fightsOfSeat 12 = .ok (.getfield 21, 3) := by decide +kernel
theorem dX1_fightsOfSeat_15 : decode cX1_fightsOfSeat 15 = .ok (.iload_n 1, 1) := by decide +kernel
theorem dX1_fightsOfSeat_16 : decode cX1_fightsOfSeat 16 = .ok (.iaload, 1) := by decide +kernel
theorem dX1_fightsOfSeat_17 : decode cX1_fightsOfSeat 17 = .ok (.goto 4, 3) := by decide +kernel
theorem dX1_fightsOfSeat_20 : decode cX1_fightsOfSeat 20 = .ok (.iconst 0, 1) := by decide +kernel
theorem dX1_fightsOfSeat_21 : decode cX1_fightsOfSeat 21 = .ok (.istore_n 2, 1) := by decide +kernel
theorem dX1_fightsOfSeat_22 : decode cX1_fightsOfSeat 22 = .ok (.aload_n 0, 1) := by decide +kernel
theorem dX1_fightsOfSeat_23 : decode cX1_fightsOfSeat 23 = .ok (.getfield 53, 3) := by decide +kernel
theorem dX1_fightsOfSeat_26 : decode cX1_fightsOfSeat 26 = .ok (.iload_n 1, 1) := by decide +kernel
theorem dX1_fightsOfSeat_27 : decode cX1_fightsOfSeat 27 = .ok (.iconst 1, 1) := by decide +kernel
theorem dX1_fightsOfSeat_28 : decode cX1_fightsOfSeat 28 = .ok (.isub, 1) := by decide +kernel
theorem dX1_fightsOfSeat_29 : decode cX1_fightsOfSeat 29 = .ok (.invokevirtual 122, 3) := by decide +kernel
theorem dX1_fightsOfSeat_32 : decode cX1_fightsOfSeat 32 = .ok (.ifCond .eq 16, 3) := by decide +kernel
theorem dX1_fightsOfSeat_35 : decode cX1_fightsOfSeat 35 = .ok (.iload_n 2, 1) := by decide +kernel
theorem dX1_fightsOfSeat_36 : decode cX1_fightsOfSeat 36 = .ok (.aload_n 0, 1) := by decide +kernel
theorem dX1_fightsOfSeat_37 : decode cX1_fightsOfSeat 37 = .ok (.getfield 21, 3) := by decide +kernel
theorem dX1_fightsOfSeat_40 : decode cX1_fightsOfSeat 40 = .ok (.iload_n 1, 1) := by decide +kernel
theorem dX1_fightsOfSeat_41 : decode cX1_fightsOfSeat 41 = .ok (.iconst 1, 1) := by decide +kernel
theorem dX1_fightsOfSeat_42 : decode cX1_fightsOfSeat 42 = .ok (.isub, 1) := by decide +kernel
theorem dX1_fightsOfSeat_43 : decode cX1_fightsOfSeat 43 = .ok (.iaload, 1) := by decide +kernel
theorem dX1_fightsOfSeat_44 : decode cX1_fightsOfSeat 44 = .ok (.iadd, 1) := by decide +kernel
theorem dX1_fightsOfSeat_45 : decode cX1_fightsOfSeat 45 = .ok (.goto 4, 3) := by decide +kernel
theorem dX1_fightsOfSeat_48 : decode cX1_fightsOfSeat 48 = .ok (.iload_n 2, 1) := by decide +kernel
theorem dX1_fightsOfSeat_49 : decode cX1_fightsOfSeat 49 = .ok (.ireturn, 1) := by decide +kernel
theorem dX1_comfortAt_0 : decode cX1_comfortAt 0 = .ok (.aload_n 0, 1) := by decide +kernel
theorem dX1_comfortAt_1 : decode cX1_comfortAt 1 = .ok (.getfield 30, 3) := by decide +kernel
theorem dX1_comfortAt_4 : decode cX1_comfortAt 4 = .ok (.iload_n 1, 1) := by decide +kernel
theorem dX1_comfortAt_5 : decode cX1_comfortAt 5 = .ok (.iaload, 1) := by decide +kernel
theorem dX1_comfortAt_6 : decode cX1_comfortAt 6 = .ok (.istore_n 2, 1) := by decide +kernel
theorem dX1_comfortAt_7 : decode cX1_comfortAt 7 = .ok (.aload_n 0, 1) := by decide +kernel
theorem dX1_comfortAt_8 : decode cX1_comfortAt 8 = .ok (.getfield 53, 3) := by decide +kernel
theorem dX1_comfortAt_11 : decode cX1_comfortAt 11 = .ok (.iload_n 2, 1) := by decide +kernel
theorem dX1_comfortAt_12 : decode cX1_comfortAt 12 = .ok (.aload_n 0, 1) := by decide +kernel
theorem dX1_comfortAt_13 : decode cX1_comfortAt 13 = .ok (.getfield 40, 3) := by decide +kernel
theorem dX1_comfortAt_16 : decode cX1_comfortAt 16 = .ok (.invokevirtual 110, 3) := by decide +kernel
theorem dX1_comfortAt_19 : decode cX1_comfortAt 19 = .ok (.iconst 2, 1) := by decide +kernel
theorem dX1_comfortAt_20 : decode cX1_comfortAt 20 = .ok (.if_icmp .ne 5, 3) := by decide +kernel
theorem dX1_comfortAt_23 : decode cX1_comfortAt 23 = .ok (.iconst 0, 1) := by decide +kernel
theorem dX1_comfortAt_24 : decode cX1_comfortAt 24 = .ok (.ireturn, 1) := by decide +kernel
theorem dX1_comfortAt_25 : decode cX1_comfortAt 25 = .ok (.iconst 3, 1) := by decide +kernel
theorem dX1_comfortAt_26 : decode cX1_comfortAt 26 = .ok (.aload_n 0, 1) := by decide +kernel
theorem dX1_comfortAt_27 : decode cX1_comfortAt 27 = .ok (.iload_n 1, 1) := by decide +kernel
theorem dX1_comfortAt_28 : decode cX1_comfortAt 28 = .ok (.invokevirtual 93, 3) := by decide +kernel
theorem dX1_comfortAt_31 : decode cX1_comfortAt 31 = .ok (.aload_n 0, 1) := by decide +kernel
theorem dX1_comfortAt_32 : decode cX1_comfortAt 32 = .ok (.getfield 53, 3) := by decide +kernel
theorem dX1_comfortAt_35 : decode cX1_comfortAt 35 = .ok (.iload_n 2, 1) := by decide +kernel
theorem dX1_comfortAt_36 : decode cX1_comfortAt 36 = .ok (.iconst 0, 1) := by decide +kernel
theorem dX1_comfortAt_37 : decode cX1_comfortAt 37 = .ok (.invokevirtual 107, 3) := by decide +kernel
theorem dX1_comfortAt_40 : decode cX1_comfortAt 40 = .ok (.invokestatic 83, 3) := by decide +kernel
theorem dX1_comfortAt_43 : decode cX1_comfortAt 43 = .ok (.imul, 1) := by decide +kernel
theorem dX1_comfortAt_44 : decode cX1_comfortAt 44 = .ok (.iconst 2, 1) := by decide +kernel
theorem dX1_comfortAt_45 : decode cX1_comfortAt 45 = .ok (.aload_n 0, 1) := by decide +kernel
theorem dX1_comfortAt_46 : decode cX1_comfortAt 46 = .ok (.iload_n 1, 1) := by decide +kernel
theorem dX1_comfortAt_47 : decode cX1_comfortAt 47 = .ok (.invokevirtual 157, 3) := by decide +kernel
theorem dX1_comfortAt_50 : decode cX1_comfortAt 50 = .ok (.imul, 1) := by decide +kernel
theorem dX1_comfortAt_51 : decode cX1_comfortAt 51 = .ok (.isub, 1) := by decide +kernel
theorem dX1_comfortAt_52 : decode cX1_comfortAt 52 = .ok (.ireturn, 1) := by decide +kernel
theorem dX2_init_0 : decode cX2_init 0 = .ok (.aload_n 0, 1) := by decide +kernel
theorem dX2_init_1 : decode cX2_init 1 = .ok (.invokespecial 3, 3) := by decide +kernel
theorem dX2_init_4 : decode cX2_init 4 = .ok (.aload_n 0, 1) := by decide +kernel
theorem dX2_init_5 : decode cX2_init 5 = .ok (.bipush 50, 2) := by decide +kernel
theorem dX2_init_7 : decode cX2_init 7 = .ok (.newarray .int, 2) := by decide +kernel
theorem dX2_init_9 : decode cX2_init 9 = .ok (.putfield 11, 3) := by decide +kernel
theorem dX2_init_12 : decode cX2_init 12 = .ok (.aload_n 0, 1) := by decide +kernel
theorem dX2_init_13 : decode cX2_init 13 = .ok (.bipush 24, 2) := by decide +kernel
theorem dX2_init_15 : decode cX2_init 15 = .ok (.newarray .int, 2) := by decide +kernel
theorem dX2_init_17 : decode cX2_init 17 = .ok (.putfield 15, 3) := by decide +kernel
theorem dX2_init_20 : decode cX2_init 20 = .ok (.aload_n 0, 1) := by decide +kernel
theorem dX2_init_21 : decode cX2_init 21 = .ok (.iconst 0, 1) := by decide +kernel
theorem dX2_init_22 : decode cX2_init 22 = .ok (.putfield 18, 3) := by decide +kernel
theorem dX2_init_25 : decode cX2_init 25 = .ok (.aload_n 0, 1) := by decide +kernel
theorem dX2_init_26 : decode cX2_init 26 = .ok (.iconst 0, 1) := by decide +kernel
theorem dX2_init_27 : decode cX2_init 27 = .ok (.putfield 22, 3) := by decide +kernel
theorem dX2_init_30 : decode cX2_init 30 = .ok (.aload_n 0, 1) := by decide +kernel
theorem dX2_init_31 : decode cX2_init 31 = .ok (.iconst 0, 1) := by decide +kernel
theorem dX2_init_32 : decode cX2_init 32 = .ok (.putfield 25, 3) := by decide +kernel
theorem dX2_init_35 : decode cX2_init 35 = .ok (.return_, 1) := by decide +kernel
theorem dX2_isKind_0 : decode cX2_isKind 0 = .ok (.iload_n 0, 1) := by decide +kernel
theorem dX2_isKind_1 : decode cX2_isKind 1 = .ok (.ifCond .lt 13, 3) := by decide +kernel
theorem dX2_isKind_4 : decode cX2_isKind 4 = .ok (.iload_n 0, 1) := by decide +kernel
theorem dX2_isKind_5 : decode cX2_isKind 5 = .ok (.bipush 8, 2) := by decide +kernel
theorem dX2_isKind_7 : decode cX2_isKind 7 = .ok (.if_icmp .ge 7, 3) := by decide +kernel
theorem dX2_isKind_10 : decode cX2_isKind 10 = .ok (.iconst 1, 1) := by decide +kernel
theorem dX2_isKind_11 : decode cX2_isKind 11 = .ok (.goto 4, 3) := by decide +kernel
theorem dX2_isKind_14 : decode cX2_isKind 14 = .ok (.iconst 0, 1) := by decide +kernel
theorem dX2_isKind_15 : decode cX2_isKind 15 = .ok (.ireturn, 1) := by decide +kernel
theorem dX2_number_0 : decode cX2_number 0 = .ok (.aload_n 0, 1) := by decide +kernel
theorem dX2_number_1 : decode cX2_number 1 = .ok (.getfield 18, 3) := by decide +kernel
theorem dX2_number_4 : decode cX2_number 4 = .ok (.ireturn, 1) := by decide +kernel
theorem dX2_ran_0 : decode cX2_ran 0 = .ok (.aload_n 0, 1) := by decide +kernel
theorem dX2_ran_1 : decode cX2_ran 1 = .ok (.getfield 22, 3) := by decide +kernel
theorem dX2_ran_4 : decode cX2_ran 4 = .ok (.ireturn, 1) := by decide +kernel
theorem dX2_has_0 : decode cX2_has 0 = .ok (.iload_n 1, 1) := by decide +kernel
theorem dX2_has_1 : decode cX2_has 1 = .ok (.ifCond .lt 15, 3) := by decide +kernel
theorem dX2_has_4 : decode cX2_has 4 = .ok (.iload_n 1, 1) := by decide +kernel
theorem dX2_has_5 : decode cX2_has 5 = .ok (.aload_n 0, 1) := by decide +kernel
theorem dX2_has_6 : decode cX2_has 6 = .ok (.getfield 18, 3) := by decide +kernel
theorem dX2_has_9 : decode cX2_has 9 = .ok (.if_icmp .ge 7, 3) := by decide +kernel
theorem dX2_has_12 : decode cX2_has 12 = .ok (.iconst 1, 1) := by decide +kernel
theorem dX2_has_13 : decode cX2_has 13 = .ok (.goto 4, 3) := by decide +kernel
theorem dX2_has_16 : decode cX2_has 16 = .ok (.iconst 0, 1) := by decide +kernel
theorem dX2_has_17 : decode cX2_has 17 = .ok (.ireturn, 1) := by decide +kernel
theorem dX2_add_0 : decode cX2_add 0 = .ok (.aload_n 0, 1) := by decide +kernel
theorem dX2_add_1 : decode cX2_add 1 = .ok (.getfield 18, 3) := by decide +kernel
theorem dX2_add_4 : decode cX2_add 4 = .ok (.bipush 50, 2) := by decide +kernel
theorem dX2_add_6 : decode cX2_add 6 = .ok (.if_icmp .lt 6, 3) := by decide +kernel
theorem dX2_add_9 : decode cX2_add 9 = .ok (.bipush (-3), 2) := by decide +kernel
theorem dX2_add_11 : decode cX2_add 11 = .ok (.ireturn, 1) := by decide +kernel
theorem dX2_add_12 : decode cX2_add 12 = .ok (.aload_n 0, 1) := by decide +kernel
theorem dX2_add_13 : decode cX2_add 13 = .ok (.getfield 11, 3) := by decide +kernel
theorem dX2_add_16 : decode cX2_add 16 = .ok (.aload_n 0, 1) := by decide +kernel
theorem dX2_add_17 : decode cX2_add 17 = .ok (.getfield 18, 3) := by decide +kernel
theorem dX2_add_20 : decode cX2_add 20 = .ok (.iload_n 1, 1) := by decide +kernel
theorem dX2_add_21 : decode cX2_add 21 = .ok (.iastore, 1) := by decide +kernel
theorem dX2_add_22 : decode cX2_add 22 = .ok (.aload_n 0, 1) := by decide +kernel
theorem dX2_add_23 : decode cX2_add 23 = .ok (.dup, 1) := by decide +kernel
theorem dX2_add_24 : decode cX2_add 24 = .ok (.getfield 18, 3) := by decide +kernel
theorem dX2_add_27 : decode cX2_add 27 = .ok (.iconst 1, 1) := by decide +kernel
theorem dX2_add_28 : decode cX2_add 28 = .ok (.iadd, 1) := by decide +kernel
theorem dX2_add_29 : decode cX2_add 29 = .ok (.putfield 18, 3) := by decide +kernel
theorem dX2_add_32 : decode cX2_add 32 = .ok (.aload_n 0, 1) := by decide +kernel
theorem dX2_add_33 : decode cX2_add 33 = .ok (.getfield 18, 3) := by decide +kernel
theorem dX2_add_36 : decode cX2_add 36 = .ok (.iconst 1, 1) := by decide +kernel
theorem dX2_add_37 : decode cX2_add 37 = .ok (.isub, 1) := by decide +kernel
theorem dX2_add_38 : decode cX2_add 38 = .ok (.ireturn, 1) := by decide +kernel
theorem dX2_kindOf_0 : decode cX2_kindOf 0 = .ok (.aload_n 0, 1) := by decide +kernel
theorem dX2_kindOf_1 : decode cX2_kindOf 1 = .ok (.iload_n 1, 1) := by decide +kernel
theorem dX2_kindOf_2 : decode cX2_kindOf 2 = .ok (.invokevirtual 28, 3) := by decide +kernel
theorem dX2_kindOf_5 : decode cX2_kindOf 5 = .ok (.ifCond .eq 12, 3) := by decide +kernel
theorem dX2_kindOf_8 : decode cX2_kindOf 8 = .ok (.aload_n 0, 1) := by decide +kernel
theorem dX2_kindOf_9 : decode cX2_kindOf 9 = .ok (.getfield 11, 3) := by decide +kernel
theorem dX2_kindOf_12 : decode cX2_kindOf 12 = .ok (.iload_n 1, 1) := by decide +kernel
theorem dX2_kindOf_13 : decode cX2_kindOf 13 = .ok (.iaload, 1) := by decide +kernel
theorem dX2_kindOf_14 : decode cX2_kindOf 14 = .ok (.goto 4, 3) := by decide +kernel
theorem dX2_kindOf_17 : decode cX2_kindOf 17 = .ok (.iconst (-1), 1) := by decide +kernel
theorem dX2_kindOf_18 : decode cX2_kindOf 18 = .ok (.ireturn, 1) := by decide +kernel
theorem dX2_isUnder_0 : decode cX2_isUnder 0 = .ok (.aload_n 0, 1) := by decide +kernel
theorem dX2_isUnder_1 : decode cX2_isUnder 1 = .ok (.iload_n 1, 1) := by decide +kernel
theorem dX2_isUnder_2 : decode cX2_isUnder 2 = .ok (.invokevirtual 32, 3) := by decide +kernel
theorem dX2_isUnder_5 : decode cX2_isUnder 5 = .ok (.istore_n 3, 1) := by decide +kernel
theorem dX2_isUnder_6 : decode cX2_isUnder 6 = .ok (.iconst 0, 1) := by decide +kernel
theorem dX2_isUnder_7 : decode cX2_isUnder 7 = .ok (.istore 4, 2) := by decide +kernel
theorem dX2_isUnder_9 : decode cX2_isUnder 9 = .ok (.iload 4, 2) := by decide +kernel
theorem dX2_isUnder_11 : decode cX2_isUnder 11 = .ok (.bipush 8, 2) := by decide +kernel
theorem dX2_isUnder_13 : decode cX2_isUnder 13 = .ok (.if_icmp .ge 27, 3) := by decide +kernel
theorem dX2_isUnder_16 : decode cX2_isUnder 16 = .ok (.iload_n 3, 1) := by decide +kernel
theorem dX2_isUnder_17 : decode cX2_isUnder 17 = .ok (.invokestatic 36, 3) := by decide +kernel
theorem dX2_isUnder_20 : decode cX2_isUnder 20 = .ok (.ifCond .eq 20, 3) := by decide +kernel
theorem dX2_isUnder_23 : decode cX2_isUnder 23 = .ok (.iload_n 3, 1) := by decide +kernel
theorem dX2_isUnder_24 : decode cX2_isUnder 24 = .ok (.iload_n 2, 1) := by decide +kernel
theorem dX2_isUnder_25 : decode cX2_isUnder 25 = .ok (.if_icmp .eq 15, 3) := by decide +kernel
theorem dX2_isUnder_28 : decode cX2_isUnder 28 = .ok (.getstatic 39, 3) := by decide +kernel
theorem dX2_isUnder_31 : decode cX2_isUnder 31 = .ok (.iload_n 3, 1) := by decide +kernel
theorem dX2_isUnder_32 : decode cX2_isUnder 32 = .ok (.iaload, 1) := by decide +kernel
theorem dX2_isUnder_33 : decode cX2_isUnder 33 = .ok (.istore_n 3, 1) := by decide +kernel
theorem dX2_isUnder_34 : decode cX2_isUnder 34 = .ok (.iinc 4 1, 3) := by decide +kernel
theorem dX2_isUnder_37 : decode cX2_isUnder 37 = .ok (.goto (-28), 3) := by decide +kernel
theorem dX2_isUnder_40 : decode cX2_isUnder 40 = .ok (.iload_n 3, 1) := by decide +kernel
theorem dX2_isUnder_41 : decode cX2_isUnder 41 = .ok (.iload_n 2, 1) := by decide +kernel
theorem dX2_isUnder_42 : decode cX2_isUnder 42 = .ok (.if_icmp .ne 7, 3) := by decide +kernel
theorem dX2_isUnder_45 : decode cX2_isUnder 45 = .ok (.iconst 1, 1) := by decide +kernel
theorem dX2_isUnder_46 : decode cX2_isUnder 46 = .ok (.goto 4, 3) := by decide +kernel
theorem dX2_isUnder_49 : decode cX2_isUnder 49 = .ok (.iconst 0, 1) := by decide +kernel
theorem dX2_isUnder_50 : decode cX2_isUnder 50 = .ok (.ireturn, 1) := by decide +kernel
theorem dX2_ranAs_0 : decode cX2_ranAs 0 = .ok (.iload_n 1, 1) := by decide +kernel
theorem dX2_ranAs_1 : decode cX2_ranAs 1 = .ok (.ifCond .lt 17, 3) := by decide +kernel
theorem dX2_ranAs_4 : decode cX2_ranAs 4 = .ok (.iload_n 1, 1) := by decide +kernel
theorem dX2_ranAs_5 : decode cX2_ranAs 5 = .ok (.bipush 24, 2) := by decide +kernel
theorem dX2_ranAs_7 : decode cX2_ranAs 7 = .ok (.if_icmp .ge 11, 3) := by decide +kernel
theorem dX2_ranAs_10 : decode cX2_ranAs 10 = .ok (.iload_n 1, 1) := by decide +kernel
theorem dX2_ranAs_11 : decode cX2_ranAs 11 = .ok (.aload_n 0, 1) := by decide +kernel
theorem dX2_ranAs_12 : decode cX2_ranAs 12 = .ok (.getfield 22, 3) := by decide +kernel
theorem dX2_ranAs_15 : decode cX2_ranAs 15 = .ok (.if_icmp .lt 5, 3) := by decide +kernel
theorem dX2_ranAs_18 : decode cX2_ranAs 18 = .ok (.iconst (-1), 1) := by decide +kernel
theorem dX2_ranAs_19 : decode cX2_ranAs 19 = .ok (.ireturn, 1) := by decide +kernel
theorem dX2_ranAs_20 : decode cX2_ranAs 20 = .ok (.aload_n 0, 1) := by decide +kernel
theorem dX2_ranAs_21 : decode cX2_ranAs 21 = .ok (.getfield 15, 3) := by decide +kernel
theorem dX2_ranAs_24 : decode cX2_ranAs 24 = .ok (.iload_n 1, 1) := by decide +kernel
theorem dX2_ranAs_25 : decode cX2_ranAs 25 = .ok (.iaload, 1) := by decide +kernel
theorem dX2_ranAs_26 : decode cX2_ranAs 26 = .ok (.ireturn, 1) := by decide +kernel
theorem dX2_run_0 : decode cX2_run 0 = .ok (.aload_n 0, 1) := by decide +kernel
theorem dX2_run_1 : decode cX2_run 1 = .ok (.iconst 0, 1) := by decide +kernel
theorem dX2_run_2 : decode cX2_run 2 = .ok (.putfield 22, 3) := by decide +kernel
theorem dX2_run_5 : decode cX2_run 5 = .ok (.aload_n 0, 1) := by decide +kernel
theorem dX2_run_6 : decode cX2_run 6 = .ok (.iload_n 1, 1) := by decide +kernel
theorem dX2_run_7 : decode cX2_run 7 = .ok (.invokevirtual 28, 3) := by decide +kernel
theorem dX2_run_10 : decode cX2_run 10 = .ok (.ifCond .eq 12, 3) := by decide +kernel
theorem dX2_run_13 : decode cX2_run 13 = .ok (.iload_n 2, 1) := by decide +kernel
theorem dX2_run_14 : decode cX2_run 14 = .ok (.ifCond .lt 8, 3) := by decide +kernel
theorem dX2_run_17 : decode cX2_run 17 = .ok (.iload_n 2, 1) := by decide +kernel
theorem dX2_run_18 : decode cX2_run 18 = .ok (.iconst 4, 1) := by decide +kernel
theorem dX2_run_19 : decode cX2_run 19 = .ok (.if_icmp .lt 5, 3) := by decide +kernel
theorem dX2_run_22 : decode cX2_run 22 = .ok (.iconst 0, 1) := by decide +kernel
theorem dX2_run_23 : decode cX2_run 23 = .ok (.ireturn, 1) := by decide +kernel
theorem dX2_run_24 : decode cX2_run 24 = .ok (.aload_n 0, 1) := by decide +kernel
theorem dX2_run_25 : decode cX2_run 25 = .ok (.iload_n 1, 1) := by decide +kernel
theorem dX2_run_26 : decode cX2_run 26 = .ok (.putfield 25, 3) := by decide +kernel
theorem dX2_run_29 : decode cX2_run 29 = .ok (.aload_n 0, 1) := by decide +kernel
theorem dX2_run_30 : decode cX2_run 30 = .ok (.iload_n 2, 1) := by decide +kernel
theorem dX2_run_31 : decode cX2_run 31 = .ok (.aload_n 0, 1) := by decide +kernel
theorem dX2_run_32 : decode cX2_run 32 = .ok (.getfield 11, 3) := by decide +kernel
theorem dX2_run_35 : decode cX2_run 35 = .ok (.iload_n 1, 1) := by decide +kernel
theorem dX2_run_36 : decode cX2_run 36 = .ok (.iaload, 1) := by decide +kernel
theorem dX2_run_37 : decode cX2_run 37 = .ok (.iload_n 3, 1) := by decide +kernel
theorem dX2_run_38 : decode cX2_run 38 = .ok (.iconst 0, 1) := by decide +kernel
theorem dX2_run_39 : decode cX2_run 39 = .ok (.invokevirtual 42, 3) := by decide +kernel
theorem dX2_run_42 : decode cX2_run 42 = .ok (.ireturn, 1) := by decide +kernel
theorem dX2_perform_0 : decode cX2_perform 0 = .ok (.iload_n 1, 1) := by decide +kernel
theorem dX2_perform_1 : decode cX2_perform 1 = .ok (.iload_n 2, 1) := by decide +kernel
theorem dX2_perform_2 : decode cX2_perform 2 = .ok (.invokestatic 46, 3) := by decide +kernel
theorem dX2_perform_5 : decode cX2_perform 5 = .ok (.istore 5, 2) := by decide +kernel
theorem dX2_perform_7 : decode cX2_perform 7 = .ok (.iload 5, 2) := by decide +kernel
theorem dX2_perform_9 : decode cX2_perform 9 = .ok (.invokestatic 36, 3) := by decide +kernel
theorem dX2_perform_12 : decode cX2_perform 12 = .ok (.ifCond .eq 10, 3) := by decide +kernel
theorem dX2_perform_15 : decode cX2_perform 15 = .ok (.iload 4, 2) := by decide +kernel
theorem dX2_perform_17 : decode cX2_perform 17 = .ok (.bipush 40, 2) := by decide +kernel
theorem dX2_perform_19 : decode cX2_perform 19 = .ok (.if_icmp .le 5, 3) := by decide +kernel
theorem dX2_perform_22 : decode cX2_perform 22 = .ok (.iconst 0, 1) := by decide +kernel
theorem dX2_perform_23 : decode cX2_perform 23 = .ok (.ireturn, 1) := by decide +kernel
theorem dX2_perform_24 : decode cX2_perform 24 = .ok (.aload_n 0, 1) := by decide +kernel
theorem dX2_perform_25 : decode cX2_perform 25 = .ok (.aload_n 0, 1) := by decide +kernel
theorem dX2_perform_26 : decode cX2_perform 26 = .ok (.getfield 25, 3) := by decide +kernel
theorem dX2_perform_29 : decode cX2_perform 29 = .ok (.invokevirtual 32, 3) := by decide +kernel
theorem dX2_perform_32 : decode cX2_perform 32 = .ok (.istore 6, 2) := by decide +kernel
theorem dX2_perform_34 : decode cX2_perform 34 = .ok (.getstatic 39, 3) := by decide +kernel
theorem dX2_perform_37 : decode cX2_perform 37 = .ok (.iload 5, 2) := by decide +kernel
theorem dX2_perform_39 : decode cX2_perform 39 = .ok (.iaload, 1) := by decide +kernel
theorem dX2_perform_40 : decode cX2_perform 40 = .ok (.istore 7, 2) := by decide +kernel
theorem dX2_perform_42 : decode cX2_perform 42 = .ok (.getstatic 50, 3) := by decide +kernel
theorem dX2_perform_45 : decode cX2_perform 45 = .ok (.iload 5, 2) := by decide +kernel
theorem dX2_perform_47 : decode cX2_perform 47 = .ok (.iconst 4, 1) := by decide +kernel
theorem dX2_perform_48 : decode cX2_perform 48 = .ok (.imul, 1) := by decide +kernel
theorem dX2_perform_49 : decode cX2_perform 49 = .ok (.iload_n 1, 1) := by decide +kernel
theorem dX2_perform_50 : decode cX2_perform 50 = .ok (.iadd, 1) := by decide +kernel
theorem dX2_perform_51 : decode cX2_perform 51 = .ok (.iaload, 1) := by decide +kernel
theorem dX2_perform_52 : decode cX2_perform 52 = .ok (.istore 8, 2) := by decide +kernel
theorem dX2_perform_54 : decode cX2_perform 54 = .ok (.iload 4, 2) := by decide +kernel
theorem dX2_perform_56 : decode cX2_perform 56 = .ok (.iconst 1, 1) := by decide +kernel
theorem dX2_perform_57 : decode cX2_perform 57 = .ok (.iadd, 1) := by decide +kernel
theorem dX2_perform_58 : decode cX2_perform 58 = .ok (.istore 9, 2) := by decide +kernel
theorem dX2_perform_60 : decode cX2_perform 60 = .ok (.aload_n 0, 1) := by decide +kernel
theorem dX2_perform_61 : decode cX2_perform 61 = .ok (.iload 8, 2) := by decide +kernel
theorem dX2_perform_63 : decode cX2_perform 63 = .ok (.invokevirtual 53, 3) := by decide +kernel
theorem dX2_perform_66 : decode cX2_perform 66 = .ok (.iload 8, 2) := by decide +kernel
theorem dX2_perform_68 : decode cX2_perform 68 = .ok (.lookupswitch 299 #[(1, 116), (2, 123), (10, 145), (11, 158), (20, 165), (30, 178), (40, 190), (41, 203), (50, 216), (60, 238), (70, 251), (80, 264), (81, 286)], 116) := by decide +kernel
theorem dX2_perform_184 : decode cX2_perform 184 = .ok (.iload_n 3, 1) := by decide +kernel
theorem dX2_perform_185 : decode cX2_perform 185 = .ok (.aload_n 0, 1) := by decide +kernel
theorem dX2_perform_186 : decode cX2_perform 186 = .ok (.getfield 25, 3) := by decide +kernel
theorem dX2_perform_189 : decode cX2_perform 189 = .ok (.iadd, 1) := by decide +kernel
theorem dX2_perform_190 : decode cX2_perform 190 = .ok (.ireturn, 1) := by decide +kernel
theorem dX2_perform_191 : decode cX2_perform 191 = .ok (.aload_n 0, 1) := by decide +kernel
theorem dX2_perform_192 : decode cX2_perform 192 = .ok (.iconst 1, 1) := by decide +kernel
theorem dX2_perform_193 : decode cX2_perform 193 = .ok (.iload 6, 2) := by decide +kernel
theorem dX2_perform_195 : decode cX2_perform 195 = .ok (.iload_n 3, 1) := by decide +kernel
theorem dX2_perform_196 : decode cX2_perform 196 = .ok (.iload 9, 2) := by decide +kernel
theorem dX2_perform_198 : decode cX2_perform 198 = .ok (.invokevirtual 42, 3) := by decide +kernel
theorem dX2_perform_201 : decode cX2_perform 201 = .ok (.aload_n 0, 1) := by decide +kernel
theorem dX2_perform_202 : decode cX2_perform 202 = .ok (.iconst 2, 1) := by decide +kernel
theorem dX2_perform_203 : decode cX2_perform 203 = .ok (.iload 6, 2) := by decide +kernel
theorem dX2_perform_205 : decode cX2_perform 205 = .ok (.iconst 1, 1) := by decide +kernel
theorem dX2_perform_206 : decode cX2_perform 206 = .ok (.iload 9, 2) := by decide +kernel
theorem dX2_perform_208 : decode cX2_perform 208 = .ok (.invokevirtual 42, 3) := by decide +kernel
theorem dX2_perform_211 : decode cX2_perform 211 = .ok (.isub, 1) := by decide +kernel
theorem dX2_perform_212 : decode cX2_perform 212 = .ok (.ireturn, 1) := by decide +kernel
theorem dX2_perform_213 : decode cX2_perform 213 = .ok (.aload_n 0, 1) := by decide +kernel
theorem dX2_perform_214 : decode cX2_perform 214 = .ok (.iconst 0, 1) := by decide +kernel
theorem dX2_perform_215 : decode cX2_perform 215 = .ok (.iload 6, 2) := by decide +kernel
theorem dX2_perform_217 : decode cX2_perform 217 = .ok (.iload_n 3, 1) := by decide +kernel
theorem dX2_perform_218 : decode cX2_perform 218 = .ok (.iload 9, 2) := by decide +kernel
theorem dX2_perform_220 : decode cX2_perform 220 = .ok (.invokevirtual 42, 3) := by decide +kernel
theorem dX2_perform_223 : decode cX2_perform 223 = .ok (.iconst 2, 1) := by decide +kernel
theorem dX2_perform_224 : decode cX2_perform 224 = .ok (.imul, 1) := by decide +kernel
theorem dX2_perform_225 : decode cX2_perform 225 = .ok (.ireturn, 1) := by decide +kernel
theorem dX2_perform_226 : decode cX2_perform 226 = .ok (.iload_n 3, 1) := by decide +kernel
theorem dX2_perform_227 : decode cX2_perform 227 = .ok (.aload_n 0, 1) := by decide +kernel
theorem dX2_perform_228 : decode cX2_perform 228 = .ok (.getfield 25, 3) := by decide +kernel
theorem dX2_perform_231 : decode cX2_perform 231 = .ok (.ixor, 1) := by decide +kernel
theorem dX2_perform_232 : decode cX2_perform 232 = .ok (.ireturn, 1) := by decide +kernel
theorem dX2_perform_233 : decode cX2_perform 233 = .ok (.aload_n 0, 1) := by decide +kernel
theorem dX2_perform_234 : decode cX2_perform 234 = .ok (.iconst 0, 1) := by decide +kernel
theorem dX2_perform_235 : decode cX2_perform 235 = .ok (.iload 7, 2) := by decide +kernel
theorem dX2_perform_237 : decode cX2_perform 237 = .ok (.iload_n 3, 1) := by decide +kernel
theorem dX2_perform_238 : decode cX2_perform 238 = .ok (.iload 9, 2) := by decide +kernel
theorem dX2_perform_240 : decode cX2_perform 240 = .ok (.invokevirtual 42, 3) := by decide +kernel
theorem dX2_perform_243 : decode cX2_perform 243 = .ok (.iconst 3, 1) := by decide +kernel
theorem dX2_perform_244 : decode cX2_perform 244 = .ok (.iadd, 1) := by decide +kernel
theorem dX2_perform_245 : decode cX2_perform 245 = .ok (.ireturn, 1) := by decide +kernel
theorem dX2_perform_246 : decode cX2_perform 246 = .ok (.aload_n 0, 1) := by decide +kernel
theorem dX2_perform_247 : decode cX2_perform 247 = .ok (.iconst 1, 1) := by decide +kernel
theorem dX2_perform_248 : decode cX2_perform 248 = .ok (.iload 7, 2) := by decide +kernel
theorem dX2_perform_250 : decode cX2_perform 250 = .ok (.iload_n 3, 1) := by decide +kernel
theorem dX2_perform_251 : decode cX2_perform 251 = .ok (.iload 9, 2) := by decide +kernel
theorem dX2_perform_253 : decode cX2_perform 253 = .ok (.invokevirtual 42, 3) := by decide +kernel
theorem dX2_perform_256 : decode cX2_perform 256 = .ok (.ineg, 1) := by decide +kernel
theorem dX2_perform_257 : decode cX2_perform 257 = .ok (.ireturn, 1) := by decide +kernel
theorem dX2_perform_258 : decode cX2_perform 258 = .ok (.aload_n 0, 1) := by decide +kernel
theorem dX2_perform_259 : decode cX2_perform 259 = .ok (.iconst 2, 1) := by decide +kernel
theorem dX2_perform_260 : decode cX2_perform 260 = .ok (.iload 7, 2) := by decide +kernel
theorem dX2_perform_262 : decode cX2_perform 262 = .ok (.iload_n 3, 1) := by decide +kernel
theorem dX2_perform_263 : decode cX2_perform 263 = .ok (.iload 9, 2) := by decide +kernel
theorem dX2_perform_265 : decode cX2_perform 265 = .ok (.invokevirtual 42, 3) := by decide +kernel
theorem dX2_perform_268 : decode cX2_perform 268 = .ok (.iconst 3, 1) := by decide +kernel
theorem dX2_perform_269 : decode cX2_perform 269 = .ok (.imul, 1) := by decide +kernel
theorem dX2_perform_270 : decode cX2_perform 270 = .ok (.ireturn, 1) := by decide +kernel
theorem dX2_perform_271 : decode cX2_perform 271 = .ok (.aload_n 0, 1) := by decide +kernel
theorem dX2_perform_272 : decode cX2_perform 272 = .ok (.iconst 1, 1) := by decide +kernel
theorem dX2_perform_273 : decode cX2_perform 273 = .ok (.iload 7, 2) := by decide +kernel
theorem dX2_perform_275 : decode cX2_perform 275 = .ok (.iload_n 3, 1) := by decide +kernel
theorem dX2_perform_276 : decode cX2_perform 276 = .ok (.iconst 1, 1) := by decide +kernel
theorem dX2_perform_277 : decode cX2_perform 277 = .ok (.iadd, 1) := by decide +kernel
theorem dX2_perform_278 : decode cX2_perform 278 = .ok (.iload 9, 2) := by decide +kernel
theorem dX2_perform_280 : decode cX2_perform 280 = .ok (.invokevirtual 42, 3) := by decide +kernel
theorem dX2_perform_283 : decode cX2_perform 283 = .ok (.ireturn, 1) := by decide +kernel
theorem dX2_perform_284 : decode cX2_perform 284 = .ok (.aload_n 0, 1) := by decide +kernel
theorem dX2_perform_285 : decode cX2_perform 285 = .ok (.iconst 2, 1) := by decide +kernel
theorem dX2_perform_286 : decode cX2_perform 286 = .ok (.iload 7, 2) := by decide +kernel
theorem dX2_perform_288 : decode cX2_perform 288 = .ok (.iload_n 3, 1) := by decide +kernel
theorem dX2_perform_289 : decode cX2_perform 289 = .ok (.iload 9, 2) := by decide +kernel
theorem dX2_perform_291 : decode cX2_perform 291 = .ok (.invokevirtual 42, 3) := by decide +kernel
theorem dX2_perform_294 : decode cX2_perform 294 = .ok (.aload_n 0, 1) := by decide +kernel
theorem dX2_perform_295 : decode cX2_perform 295 = .ok (.iconst 0, 1) := by decide +kernel
theorem dX2_perform_296 : decode cX2_perform 296 = .ok (.iload 6, 2) := by decide +kernel
theorem dX2_perform_298 : decode cX2_perform 298 = .ok (.iconst 2, 1) := by decide +kernel
theorem dX2_perform_299 : decode cX2_perform 299 = .ok (.iload 9, 2) := by decide +kernel
theorem dX2_perform_301 : decode cX2_perform 301 = .ok (.invokevirtual 42, 3) := by decide +kernel
theorem dX2_perform_304 : decode cX2_perform 304 = .ok (.isub, 1) := by decide +kernel
theorem dX2_perform_305 : decode cX2_perform 305 = .ok (.ireturn, 1) := by decide +kernel
theorem dX2_perform_306 : decode cX2_perform 306 = .ok (.aload_n 0, 1) := by decide +kernel
theorem dX2_perform_307 : decode cX2_perform 307 = .ok (.iconst 3, 1) := by decide +kernel
theorem dX2_perform_308 : decode cX2_perform 308 = .ok (.iload 7, 2) := by decide +kernel
theorem dX2_perform_310 : decode cX2_perform 310 = .ok (.iload_n 3, 1) := by decide +kernel
theorem dX2_perform_311 : decode cX2_perform 311 = .ok (.iload 9, 2) := by decide +kernel
theorem dX2_perform_313 : decode cX2_perform 313 = .ok (.invokevirtual 42, 3) := by decide +kernel
theorem dX2_perform_316 : decode cX2_perform 316 = .ok (.iconst 5, 1) := by decide +kernel
theorem dX2_perform_317 : decode cX2_perform 317 = .ok (.ixor, 1) := by decide +kernel
theorem dX2_perform_318 : decode cX2_perform 318 = .ok (.ireturn, 1) := by decide +kernel
theorem dX2_perform_319 : decode cX2_perform 319 = .ok (.aload_n 0, 1) := by decide +kernel
theorem dX2_perform_320 : decode cX2_perform 320 = .ok (.iconst 0, 1) := by decide +kernel
theorem dX2_perform_321 : decode cX2_perform 321 = .ok (.iload 7, 2) := by decide +kernel
theorem dX2_perform_323 : decode cX2_perform 323 = .ok (.iload_n 3, 1) := by decide +kernel
theorem dX2_perform_324 : decode cX2_perform 324 = .ok (.iload 9, 2) := by decide +kernel
theorem dX2_perform_326 : decode cX2_perform 326 = .ok (.invokevirtual 42, 3) := by decide +kernel
theorem dX2_perform_329 : decode cX2_perform 329 = .ok (.iconst 2, 1) := by decide +kernel
theorem dX2_perform_330 : decode cX2_perform 330 = .ok (.imul, 1) := by decide +kernel
theorem dX2_perform_331 : decode cX2_perform 331 = .ok (.ireturn, 1) := by decide +kernel
theorem dX2_perform_332 : decode cX2_perform 332 = .ok (.aload_n 0, 1) := by decide +kernel
theorem dX2_perform_333 : decode cX2_perform 333 = .ok (.iconst 1, 1) := by decide +kernel
theorem dX2_perform_334 : decode cX2_perform 334 = .ok (.iload 7, 2) := by decide +kernel
theorem dX2_perform_336 : decode cX2_perform 336 = .ok (.iload_n 3, 1) := by decide +kernel
theorem dX2_perform_337 : decode cX2_perform 337 = .ok (.iload 9, 2) := by decide +kernel
theorem dX2_perform_339 : decode cX2_perform 339 = .ok (.invokevirtual 42, 3) := by decide +kernel
theorem dX2_perform_342 : decode cX2_perform 342 = .ok (.aload_n 0, 1) := by decide +kernel
theorem dX2_perform_343 : decode cX2_perform 343 = .ok (.iconst 2, 1) := by decide +kernel
theorem dX2_perform_344 : decode cX2_perform 344 = .ok (.iload 6, 2) := by decide +kernel
theorem dX2_perform_346 : decode cX2_perform 346 = .ok (.iconst 2, 1) := by decide +kernel
theorem dX2_perform_347 : decode cX2_perform 347 = .ok (.iload 9, 2) := by decide +kernel
theorem dX2_perform_349 : decode cX2_perform 349 = .ok (.invokevirtual 42, 3) := by decide +kernel
theorem dX2_perform_352 : decode cX2_perform 352 = .ok (.iadd, 1) := by decide +kernel
theorem dX2_perform_353 : decode cX2_perform 353 = .ok (.ireturn, 1) := by decide +kernel
theorem dX2_perform_354 : decode cX2_perform 354 = .ok (.aload_n 0, 1) := by decide +kernel
theorem dX2_perform_355 : decode cX2_perform 355 = .ok (.iconst 3, 1) := by decide +kernel
theorem dX2_perform_356 : decode cX2_perform 356 = .ok (.iload 7, 2) := by decide +kernel
theorem dX2_perform_358 : decode cX2_perform 358 = .ok (.iload_n 3, 1) := by decide +kernel
theorem dX2_perform_359 : decode cX2_perform 359 = .ok (.iload 9, 2) := by decide +kernel
theorem dX2_perform_361 : decode cX2_perform 361 = .ok (.invokevirtual 42, 3) := by decide +kernel
theorem dX2_perform_364 : decode cX2_perform 364 = .ok (.iconst 1, 1) := by decide +kernel
theorem dX2_perform_365 : decode cX2_perform 365 = .ok (.isub, 1) := by decide +kernel
theorem dX2_perform_366 : decode cX2_perform 366 = .ok (.ireturn, 1) := by decide +kernel
theorem dX2_perform_367 : decode cX2_perform 367 = .ok (.iconst 0, 1) := by decide +kernel
theorem dX2_perform_368 : decode cX2_perform 368 = .ok (.ireturn, 1) := by decide +kernel
theorem dX2_holderOf_0 : decode cX2_holderOf 0 = .ok (.iload_n 1, 1) := by decide +kernel
theorem dX2_holderOf_1 : decode cX2_holderOf 1 = .ok (.istore_n 2, 1) := by decide +kernel
theorem dX2_holderOf_2 : decode cX2_holderOf 2 = .ok (.iconst 0, 1) := by decide +kernel
theorem dX2_holderOf_3 : decode cX2_holderOf 3 = .ok (.istore_n 3, 1) := by decide +kernel
theorem dX2_holderOf_4 : decode cX2_holderOf 4 = .ok (.iload_n 3, 1) := by decide +kernel
theorem dX2_holderOf_5 : decode cX2_holderOf 5 = .ok (.bipush 8, 2) := by decide +kernel
theorem dX2_holderOf_7 : decode cX2_holderOf 7 = .ok (.if_icmp .ge 36, 3) := by decide +kernel
theorem dX2_holderOf_10 : decode cX2_holderOf 10 = .ok (.iload_n 2, 1) := by decide +kernel
theorem dX2_holderOf_11 : decode cX2_holderOf 11 = .ok (.invokestatic 36, 3) := by decide +kernel
theorem dX2_holderOf_14 : decode cX2_holderOf 14 = .ok (.ifCond .eq 29, 3) := by decide +kernel
theorem dX2_holderOf_17 : decode cX2_holderOf 17 = .ok (.getstatic 50, 3) := by decide +kernel
theorem dX2_holderOf_20 : decode cX2_holderOf 20 = .ok (.iload_n 2, 1) := by decide +kernel
theorem dX2_holderOf_21 : decode cX2_holderOf 21 = .ok (.iconst 4, 1) := by decide +kernel
theorem dX2_holderOf_22 : decode cX2_holderOf 22 = .ok (.imul, 1) := by decide +kernel
theorem dX2_holderOf_23 : decode cX2_holderOf 23 = .ok (.iload_n 0, 1) := by decide +kernel
theorem dX2_holderOf_24 : decode cX2_holderOf 24 = .ok (.iadd, 1) := by decide +kernel
theorem dX2_holderOf_25 : decode cX2_holderOf 25 = .ok (.iaload, 1) := by decide +kernel
theorem dX2_holderOf_26 : decode cX2_holderOf 26 = .ok (.ifCond .eq 5, 3) := by decide +kernel
theorem dX2_holderOf_29 : decode cX2_holderOf 29 = .ok (.iload_n 2, 1) := by decide +kernel
theorem dX2_holderOf_30 : decode cX2_holderOf 30 = .ok (.ireturn, 1) := by decide +kernel
theorem dX2_holderOf_31 : decode cX2_holderOf 31 = .ok (.getstatic 39, 3) := by decide +kernel
theorem dX2_holderOf_34 : decode cX2_holderOf 34 = .ok (.iload_n 2, 1) := by decide +kernel
theorem dX2_holderOf_35 : decode cX2_holderOf 35 = .ok (.iaload, 1) := by decide +kernel
theorem dX2_holderOf_36 : decode cX2_holderOf 36 = .ok (.istore_n 2, 1) := by decide +kernel
theorem dX2_holderOf_37 : decode cX2_holderOf 37 = .ok (.iinc 3 1, 3) := by decide +kernel
theorem dX2_holderOf_40 : decode cX2_holderOf 40 = .ok (.goto (-36), 3) := by decide +kernel
theorem dX2_holderOf_43 : decode cX2_holderOf 43 = .ok (.iconst (-1), 1) := by decide +kernel
theorem dX2_holderOf_44 : decode cX2_holderOf 44 = .ok (.ireturn, 1) := by decide +kernel
theorem dX2_begin_0 : decode cX2_begin 0 = .ok (.aload_n 0, 1) := by decide +kernel
theorem dX2_begin_1 : decode cX2_begin 1 = .ok (.getfield 22, 3) := by decide +kernel
theorem dX2_begin_4 : decode cX2_begin 4 = .ok (.bipush 24, 2) := by decide +kernel
theorem dX2_begin_6 : decode cX2_begin 6 = .ok (.if_icmp .ge 13, 3) := by decide +kernel
theorem dX2_begin_9 : decode cX2_begin 9 = .ok (.aload_n 0, 1) := by decide +kernel
theorem dX2_begin_10 : decode cX2_begin 10 = .ok (.getfield 15, 3) := by decide +kernel
theorem dX2_begin_13 : decode cX2_begin 13 = .ok (.aload_n 0, 1) := by decide +kernel
theorem dX2_begin_14 : decode cX2_begin 14 = .ok (.getfield 22, 3) := by decide +kernel
theorem dX2_begin_17 : decode cX2_begin 17 = .ok (.iload_n 1, 1) := by decide +kernel
theorem dX2_begin_18 : decode cX2_begin 18 = .ok (.iastore, 1) := by decide +kernel
theorem dX2_begin_19 : decode cX2_begin 19 = .ok (.aload_n 0, 1) := by decide +kernel
theorem dX2_begin_20 : decode cX2_begin 20 = .ok (.dup, 1) := by decide +kernel
theorem dX2_begin_21 : decode cX2_begin 21 = .ok (.getfield 22, 3) := by decide +kernel
theorem dX2_begin_24 : decode cX2_begin 24 = .ok (.iconst 1, 1) := by decide +kernel
theorem dX2_begin_25 : decode cX2_begin 25 = .ok (.iadd, 1) := by decide +kernel
theorem dX2_begin_26 : decode cX2_begin 26 = .ok (.putfield 22, 3) := by decide +kernel
theorem dX2_begin_29 : decode cX2_begin 29 = .ok (.return_, 1) := by decide +kernel
theorem dX3_init_0 : decode cX3_init 0 = .ok (.aload_n 0, 1) := by decide +kernel
theorem dX3_init_1 : decode cX3_init 1 = .ok (.invokespecial 1, 3) := by decide +kernel
theorem dX3_init_4 : decode cX3_init 4 = .ok (.aload_n 0, 1) := by decide +kernel
theorem dX3_init_5 : decode cX3_init 5 = .ok (.sipush 128, 3) := by decide +kernel
theorem dX3_init_8 : decode cX3_init 8 = .ok (.newarray .int, 2) := by decide +kernel
theorem dX3_init_10 : decode cX3_init 10 = .ok (.putfield 9, 3) := by decide +kernel
theorem dX3_init_13 : decode cX3_init 13 = .ok (.aload_n 0, 1) := by decide +kernel
theorem dX3_init_14 : decode cX3_init 14 = .ok (.sipush 128, 3) := by decide +kernel
theorem dX3_init_17 : decode cX3_init 17 = .ok (.newarray .int, 2) := by decide +kernel
theorem dX3_init_19 : decode cX3_init 19 = .ok (.putfield 13, 3) := by decide +kernel
theorem dX3_init_22 : decode cX3_init 22 = .ok (.aload_n 0, 1) := by decide +kernel
theorem dX3_init_23 : decode cX3_init 23 = .ok (.sipush 128, 3) := by decide +kernel
theorem dX3_init_26 : decode cX3_init 26 = .ok (.newarray .int, 2) := by decide +kernel
theorem dX3_init_28 : decode cX3_init 28 = .ok (.putfield 16, 3) := by decide +kernel
theorem dX3_init_31 : decode cX3_init 31 = .ok (.aload_n 0, 1) := by decide +kernel
theorem dX3_init_32 : decode cX3_init 32 = .ok (.bipush 9, 2) := by decide +kernel
theorem dX3_init_34 : decode cX3_init 34 = .ok (.newarray .int, 2) := by decide +kernel
theorem dX3_init_36 : decode cX3_init 36 = .ok (.putfield 19, 3) := by decide +kernel
theorem dX3_init_39 : decode cX3_init 39 = .ok (.aload_n 0, 1) := by decide +kernel
theorem dX3_init_40 : decode cX3_init 40 = .ok (.iconst 0, 1) := by decide +kernel
theorem dX3_init_41 : decode cX3_init 41 = .ok (.putfield 22, 3) := by decide +kernel
theorem dX3_init_44 : decode cX3_init 44 = .ok (.aload_n 0, 1) := by decide +kernel
theorem dX3_init_45 : decode cX3_init 45 = .ok (.iconst 0, 1) := by decide +kernel
theorem dX3_init_46 : decode cX3_init 46 = .ok (.putfield 26, 3) := by decide +kernel
theorem dX3_init_49 : decode cX3_init 49 = .ok (.return_, 1) := by decide +kernel
theorem dX3_isTold_0 : decode cX3_isTold 0 = .ok (.aload_n 0, 1) := by decide +kernel
theorem dX3_isTold_1 : decode cX3_isTold 1 = .ok (.getfield 22, 3) := by decide +kernel
theorem dX3_isTold_4 : decode cX3_isTold 4 = .ok (.ifCond .le 7, 3) := by decide +kernel
theorem dX3_isTold_7 : decode cX3_isTold 7 = .ok (.iconst 1, 1) := by decide +kernel
theorem dX3_isTold_8 : decode cX3_isTold 8 = .ok (.goto 4, 3) := by decide +kernel
theorem dX3_isTold_11 : decode cX3_isTold 11 = .ok (.iconst 0, 1) := by decide +kernel
theorem dX3_isTold_12 : decode cX3_isTold 12 = .ok (.ireturn, 1) := by decide +kernel
theorem dX3_hearsCoughs_0 : decode cX3_hearsCoughs 0 = .ok (.iconst 0, 1) := by decide +kernel
theorem dX3_hearsCoughs_1 : decode cX3_hearsCoughs 1 = .ok (.istore_n 1, 1) := by decide +kernel
theorem dX3_hearsCoughs_2 : decode cX3_hearsCoughs 2 = .ok (.iload_n 1, 1) := by decide +kernel
theorem dX3_hearsCoughs_3 : decode cX3_hearsCoughs 3 = .ok (.aload_n 0, 1) := by decide +kernel
theorem dX3_hearsCoughs_4 : decode cX3_hearsCoughs 4 = .ok (.getfield 22, 3) := by decide +kernel
theorem dX3_hearsCoughs_7 : decode cX3_hearsCoughs 7 = .ok (.if_icmp .ge 33, 3) := by decide +kernel
theorem dX3_hearsCoughs_10 : decode cX3_hearsCoughs 10 = .ok (.aload_n 0, 1) := by decide +kernel
theorem dX3_hearsCoughs_11 : decode cX3_hearsCoughs 11 = .ok (.getfield 9, 3) := by decide +kernel
theorem dX3_hearsCoughs_14 : decode cX3_hearsCoughs 14 = .ok (.iload_n 1, 1) := by decide +kernel
theorem dX3_hearsCoughs_15 : decode cX3_hearsCoughs 15 = .ok (.iaload, 1) := by decide +kernel
theorem dX3_hearsCoughs_16 : decode cX3_hearsCoughs 16 = .ok (.bipush 110, 2) := by decide +kernel
theorem dX3_hearsCoughs_18 : decode cX3_hearsCoughs 18 = .ok (.if_icmp .ne 16, 3) := by decide +kernel
theorem dX3_hearsCoughs_21 : decode cX3_hearsCoughs 21 = .ok (.aload_n 0, 1) := by decide +kernel
theorem dX3_hearsCoughs_22 : decode cX3_hearsCoughs 22 = .ok (.getfield 13, 3) := by decide +kernel
theorem dX3_hearsCoughs_25 : decode cX3_hearsCoughs 25 = .ok (.iload_n 1, 1) := by decide +kernel
theorem dX3_hearsCoughs_26 : decode cX3_hearsCoughs 26 = .ok (.iaload, 1) := by decide +kernel
theorem dX3_hearsCoughs_27 : decode cX3_hearsCoughs 27 = .ok (.bipush 7, 2) := by decide +kernel
theorem dX3_hearsCoughs_29 : decode cX3_hearsCoughs 29 = .ok (.if_icmp .ne 5, 3) := by decide +kernel
theorem dX3_hearsCoughs_32 : decode cX3_hearsCoughs 32 = .ok (.iconst 1, 1) := by decide +kernel
theorem dX3_hearsCoughs_33 : decode cX3_hearsCoughs 33 = .ok (.ireturn, 1) := by decide +kernel
theorem dX3_hearsCoughs_34 : decode cX3_hearsCoughs 34 = .ok (.iinc 1 1, 3) := by decide +kernel
theorem dX3_hearsCoughs_37 : decode cX3_hearsCoughs 37 = .ok (.goto (-35), 3) := by decide +kernel
theorem dX3_hearsCoughs_40 : decode cX3_hearsCoughs 40 = .ok (.iconst 0, 1) := by decide +kernel
theorem dX3_hearsCoughs_41 : decode cX3_hearsCoughs 41 = .ok (.ireturn, 1) := by decide +kernel
theorem dX3_clear_0 : decode cX3_clear 0 = .ok (.aload_n 0, 1) := by decide +kernel
theorem dX3_clear_1 : decode cX3_clear 1 = .ok (.iconst 0, 1) := by decide +kernel
theorem dX3_clear_2 : decode cX3_clear 2 = .ok (.putfield 22, 3) := by decide +kernel
theorem dX3_clear_5 : decode cX3_clear 5 = .ok (.return_, 1) := by decide +kernel
theorem dX3_become_0 : decode cX3_become 0 = .ok (.aload_n 1, 1) := by decide +kernel
theorem dX3_become_1 : decode cX3_become 1 = .ok (.getfield 9, 3) := by decide +kernel
theorem dX3_become_4 : decode cX3_become 4 = .ok (.iconst 0, 1) := by decide +kernel
theorem dX3_become_5 : decode cX3_become 5 = .ok (.aload_n 0, 1) := by decide +kernel
theorem dX3_become_6 : decode cX3_become 6 = .ok (.getfield 9, 3) := by decide +kernel
theorem dX3_become_9 : decode cX3_become 9 = .ok (.iconst 0, 1) := by decide +kernel
theorem dX3_become_10 : decode cX3_become 10 = .ok (.sipush 128, 3) := by decide +kernel
theorem dX3_become_13 : decode cX3_become 13 = .ok (.invokestatic 29, 3) := by decide +kernel
theorem dX3_become_16 : decode cX3_become 16 = .ok (.aload_n 1, 1) := by decide +kernel
theorem dX3_become_17 : decode cX3_become 17 = .ok (.getfield 13, 3) := by decide +kernel
theorem dX3_become_20 : decode cX3_become 20 = .ok (.iconst 0, 1) := by decide +kernel
theorem dX3_become_21 : decode cX3_become 21 = .ok (.aload_n 0, 1) := by decide +kernel
theorem dX3_become_22 : decode cX3_become 22 = .ok (.getfield 13, 3) := by decide +kernel
theorem dX3_become_25 : decode cX3_become 25 = .ok (.iconst 0, 1) := by decide +kernel
theorem dX3_become_26 : decode cX3_become 26 = .ok (.sipush 128, 3) := by decide +kernel
theorem dX3_become_29 : decode cX3_become 29 = .ok (.invokestatic 29, 3) := by decide +kernel
theorem dX3_become_32 : decode cX3_become 32 = .ok (.aload_n 0, 1) := by decide +kernel
theorem dX3_become_33 : decode cX3_become 33 = .ok (.aload_n 1, 1) := by decide +kernel
theorem dX3_become_34 : decode cX3_become 34 = .ok (.getfield 22, 3) := by decide +kernel
theorem dX3_become_37 : decode cX3_become 37 = .ok (.putfield 22, 3) := by decide +kernel
theorem dX3_become_40 : decode cX3_become 40 = .ok (.return_, 1) := by decide +kernel
theorem dX3_add_0 : decode cX3_add 0 = .ok (.aload_n 0, 1) := by decide +kernel
theorem dX3_add_1 : decode cX3_add 1 = .ok (.getfield 22, 3) := by decide +kernel
theorem dX3_add_4 : decode cX3_add 4 = .ok (.sipush 128, 3) := by decide +kernel
theorem dX3_add_7 : decode cX3_add 7 = .ok (.if_icmp .lt 4, 3) := by decide +kernel
theorem dX3_add_10 : decode cX3_add 10 = .ok (.return_, 1) := by decide +kernel
theorem dX3_add_11 : decode cX3_add 11 = .ok (.aload_n 0, 1) := by decide +kernel
theorem dX3_add_12 : decode cX3_add 12 = .ok (.getfield 9, 3) := by decide +kernel
theorem dX3_add_15 : decode cX3_add 15 = .ok (.aload_n 0, 1) := by decide +kernel
theorem dX3_add_16 : decode cX3_add 16 = .ok (.getfield 22, 3) := by decide +kernel
theorem dX3_add_19 : decode cX3_add 19 = .ok (.iload_n 1, 1) := by decide +kernel
theorem dX3_add_20 : decode cX3_add 20 = .ok (.iastore, 1) := by decide +kernel
theorem dX3_add_21 : decode cX3_add 21 = .ok (.aload_n 0, 1) := by decide +kernel
theorem dX3_add_22 : decode cX3_add 22 = .ok (.getfield 13, 3) := by decide +kernel
theorem dX3_add_25 : decode cX3_add 25 = .ok (.aload_n 0, 1) := by decide +kernel
theorem dX3_add_26 : decode cX3_add 26 = .ok (.getfield 22, 3) := by decide +kernel
theorem dX3_add_29 : decode cX3_add 29 = .ok (.iload_n 2, 1) := by decide +kernel
theorem dX3_add_30 : decode cX3_add 30 = .ok (.iastore, 1) := by decide +kernel
theorem dX3_add_31 : decode cX3_add 31 = .ok (.aload_n 0, 1) := by decide +kernel
theorem dX3_add_32 : decode cX3_add 32 = .ok (.dup, 1) := by decide +kernel
theorem dX3_add_33 : decode cX3_add 33 = .ok (.getfield 22, 3) := by decide +kernel
theorem dX3_add_36 : decode cX3_add 36 = .ok (.iconst 1, 1) := by decide +kernel
theorem dX3_add_37 : decode cX3_add 37 = .ok (.iadd, 1) := by decide +kernel
theorem dX3_add_38 : decode cX3_add 38 = .ok (.putfield 22, 3) := by decide +kernel
theorem dX3_add_41 : decode cX3_add 41 = .ok (.return_, 1) := by decide +kernel
theorem dX3_steps_0 : decode cX3_steps 0 = .ok (.aload_n 0, 1) := by decide +kernel
theorem dX3_steps_1 : decode cX3_steps 1 = .ok (.getfield 22, 3) := by decide +kernel
theorem dX3_steps_4 : decode cX3_steps 4 = .ok (.ireturn, 1) := by decide +kernel
theorem dX3_leadOn_0 : decode cX3_leadOn 0 = .ok (.iload_n 1, 1) := by decide +kernel
theorem dX3_leadOn_1 : decode cX3_leadOn 1 = .ok (.ifCond .lt 21, 3) := by decide +kernel
theorem dX3_leadOn_4 : decode cX3_leadOn 4 = .ok (.iload_n 1, 1) := by decide +kernel
theorem dX3_leadOn_5 : decode cX3_leadOn 5 = .ok (.aload_n 0, 1) := by decide +kernel
theorem dX3_leadOn_6 : decode cX3_leadOn 6 = .ok (.getfield 22, 3) := by decide +kernel
theorem dX3_leadOn_9 : decode cX3_leadOn 9 = .ok (.if_icmp .ge 13, 3) := by decide +kernel
theorem dX3_leadOn_12 : decode cX3_leadOn 12 = .ok (.aload_n 0, 1) := by decide +kernel
theorem dX3_leadOn_13 : decode cX3_leadOn 13 = .ok (.getfield 13, 3) := by decide +kernel
theorem dX3_leadOn_16 : decode cX3_leadOn 16 = .ok (.iload_n 1, 1) := by decide +kernel
theorem dX3_leadOn_17 : decode cX3_leadOn 17 = .ok (.aload_n 0, 1) := by decide +kernel
theorem dX3_leadOn_18 : decode cX3_leadOn 18 = .ok (.getfield 22, 3) := by decide +kernel
theorem dX3_leadOn_21 : decode cX3_leadOn 21 = .ok (.iastore, 1) := by decide +kernel
theorem dX3_leadOn_22 : decode cX3_leadOn 22 = .ok (.return_, 1) := by decide +kernel
theorem dX3_work_0 : decode cX3_work 0 = .ok (.aload_n 0, 1) := by decide +kernel
theorem dX3_work_1 : decode cX3_work 1 = .ok (.iconst 0, 1) := by decide +kernel
theorem dX3_work_2 : decode cX3_work 2 = .ok (.putfield 26, 3) := by decide +kernel
theorem dX3_work_5 : decode cX3_work 5 = .ok (.iconst 0, 1) := by decide +kernel
theorem dX3_work_6 : decode cX3_work 6 = .ok (.istore_n 1, 1) := by decide +kernel
theorem dX3_work_7 : decode cX3_work 7 = .ok (.iload_n 1, 1) := by decide +kernel
theorem dX3_work_8 : decode cX3_work 8 = .ok (.aload_n 0, 1) := by decide +kernel
theorem dX3_work_9 : decode cX3_work 9 = .ok (.getfield 22, 3) := by decide +kernel
theorem dX3_work_12 : decode cX3_work 12 = .ok (.if_icmp .ge 200, 3) := by decide +kernel
theorem dX3_work_15 : decode cX3_work 15 = .ok (.aload_n 0, 1) := by decide +kernel
theorem dX3_work_16 : decode cX3_work 16 = .ok (.getfield 9, 3) := by decide +kernel
theorem dX3_work_19 : decode cX3_work 19 = .ok (.iload_n 1, 1) := by decide +kernel
theorem dX3_work_20 : decode cX3_work 20 = .ok (.iaload, 1) := by decide +kernel
theorem dX3_work_21 : decode cX3_work 21 = .ok (.istore_n 2, 1) := by decide +kernel
theorem dX3_work_22 : decode cX3_work 22 = .ok (.aload_n 0, 1) := by decide +kernel
theorem dX3_work_23 : decode cX3_work 23 = .ok (.getfield 13, 3) := by decide +kernel
theorem dX3_work_26 : decode cX3_work 26 = .ok (.iload_n 1, 1) := by decide +kernel
theorem dX3_work_27 : decode cX3_work 27 = .ok (.iaload, 1) := by decide +kernel
theorem dX3_work_28 : decode cX3_work 28 = .ok (.istore_n 3, 1) := by decide +kernel
theorem dX3_work_29 : decode cX3_work 29 = .ok (.iinc 1 1, 3) := by decide +kernel
theorem dX3_work_32 : decode cX3_work 32 = .ok (.iload_n 2, 1) := by decide +kernel
theorem dX3_work_33 : decode cX3_work 33 = .ok (.lookupswitch 156 #[(33, 94), (35, 59), (59, 141), (63, 125), (110, 67), (126, 113)], 59) := by decide +kernel
theorem dX3_work_92 : decode cX3_work 92 = .ok (.aload_n 0, 1) := by decide +kernel
theorem dX3_work_93 : decode cX3_work 93 = .ok (.iload_n 3, 1) := by decide +kernel
theorem dX3_work_94 : decode cX3_work 94 = .ok (.invokevirtual 35, 3) := by decide +kernel
theorem dX3_work_97 : decode cX3_work 97 = .ok (.goto 112, 3) := by decide +kernel
theorem dX3_work_100 : decode cX3_work 100 = .ok (.aload_n 0, 1) := by decide +kernel
theorem dX3_work_101 : decode cX3_work 101 = .ok (.iload_n 3, 1) := by decide +kernel
theorem dX3_work_102 : decode cX3_work 102 = .ok (.ifCond .lt 18, 3) := by decide +kernel
theorem dX3_work_105 : decode cX3_work 105 = .ok (.iload_n 3, 1) := by decide +kernel
theorem dX3_work_106 : decode cX3_work 106 = .ok (.bipush 9, 2) := by decide +kernel
theorem dX3_work_108 : decode cX3_work 108 = .ok (.if_icmp .ge 12, 3) := by decide +kernel
theorem dX3_work_111 : decode cX3_work 111 = .ok (.aload_n 0, 1) := by decide +kernel
theorem dX3_work_112 : decode cX3_work 112 = .ok (.getfield 19, 3) := by decide +kernel
theorem dX3_work_115 : decode cX3_work 115 = .ok (.iload_n 3, 1) := by decide +kernel
theorem dX3_work_116 : decode cX3_work 116 = .ok (.iaload, 1) := by decide +kernel
theorem dX3_work_117 : decode cX3_work 117 = .ok (.goto 4, 3) := by decide +kernel
theorem dX3_work_120 : decode cX3_work 120 = .ok (.iconst 0, 1) := by decide +kernel
theorem dX3_work_121 : decode cX3_work 121 = .ok (.invokevirtual 35, 3) := by decide +kernel
theorem dX3_work_124 : decode cX3_work 124 = .ok (.goto 85, 3) := by decide +kernel
theorem dX3_work_127 : decode cX3_work 127 = .ok (.aload_n 0, 1) := by decide +kernel
theorem dX3_work_128 : decode cX3_work 128 = .ok (.aload_n 0, 1) := by decide +kernel
theorem dX3_work_129 : decode cX3_work 129 = .ok (.invokevirtual 39, 3) := by decide +kernel
theorem dX3_work_132 : decode cX3_work 132 = .ok (.ifCond .ne 7, 3) := by decide +kernel
theorem dX3_work_135 : decode cX3_work 135 = .ok (.iconst 1, 1) := by decide +kernel
theorem dX3_work_136 : decode cX3_work 136 = .ok (.goto 4, 3) := by decide +kernel
theorem dX3_work_139 : decode cX3_work 139 = .ok (.iconst 0, 1) := by decide +kernel
theorem dX3_work_140 : decode cX3_work 140 = .ok (.invokevirtual 35, 3) := by decide +kernel
theorem dX3_work_143 : decode cX3_work 143 = .ok (.goto 66, 3) := by decide +kernel
theorem dX3_work_146 : decode cX3_work 146 = .ok (.aload_n 0, 1) := by decide +kernel
theorem dX3_work_147 : decode cX3_work 147 = .ok (.aload_n 0, 1) := by decide +kernel
theorem dX3_work_148 : decode cX3_work 148 = .ok (.invokevirtual 39, 3) := by decide +kernel
theorem dX3_work_151 : decode cX3_work 151 = .ok (.ineg, 1) := by decide +kernel
theorem dX3_work_152 : decode cX3_work 152 = .ok (.invokevirtual 35, 3) := by decide +kernel
theorem dX3_work_155 : decode cX3_work 155 = .ok (.goto 54, 3) := by decide +kernel
theorem dX3_work_158 : decode cX3_work 158 = .ok (.aload_n 0, 1) := by decide +kernel
theorem dX3_work_159 : decode cX3_work 159 = .ok (.invokevirtual 39, 3) := by decide +kernel
theorem dX3_work_162 : decode cX3_work 162 = .ok (.ifCond .ne 47, 3) := by decide +kernel
theorem dX3_work_165 : decode cX3_work 165 = .ok (.iload_n 1, 1) := by decide +kernel
theorem dX3_work_166 : decode cX3_work 166 = .ok (.iload_n 3, 1) := by decide +kernel
theorem dX3_work_167 : decode cX3_work 167 = .ok (.invokestatic 43, 3) := by decide +kernel
theorem dX3_work_170 : decode cX3_work 170 = .ok (.istore_n 1, 1) := by decide +kernel
theorem dX3_work_171 : decode cX3_work 171 = .ok (.goto 38, 3) := by decide +kernel
theorem dX3_work_174 : decode cX3_work 174 = .ok (.iconst 0, 1) := by decide +kernel
theorem dX3_work_175 : decode cX3_work 175 = .ok (.aload_n 0, 1) := by decide +kernel
theorem dX3_work_176 : decode cX3_work 176 = .ok (.invokevirtual 39, 3) := by decide +kernel
theorem dX3_work_179 : decode cX3_work 179 = .ok (.sipush 999, 3) := by decide +kernel
theorem dX3_work_182 : decode cX3_work 182 = .ok (.invokestatic 49, 3) := by decide +kernel
theorem dX3_work_185 : decode cX3_work 185 = .ok (.invokestatic 43, 3) := by decide +kernel
theorem dX3_work_188 : decode cX3_work 188 = .ok (.ireturn, 1) := by decide +kernel
theorem dX3_work_189 : decode cX3_work 189 = .ok (.aload_n 0, 1) := by decide +kernel
theorem dX3_work_190 : decode cX3_work 190 = .ok (.invokevirtual 39, 3) := by decide +kernel
theorem dX3_work_193 : decode cX3_work 193 = .ok (.istore 4, 2) := by decide +kernel
theorem dX3_work_195 : decode cX3_work 195 = .ok (.aload_n 0, 1) := by decide +kernel
theorem dX3_work_196 : decode cX3_work 196 = .ok (.iload_n 2, 1) := by decide +kernel
theorem dX3_work_197 : decode cX3_work 197 = .ok (.aload_n 0, 1) := by decide +kernel
theorem dX3_work_198 : decode cX3_work 198 = .ok (.invokevirtual 39, 3) := by decide +kernel
theorem dX3_work_201 : decode cX3_work 201 = .ok (.iload 4, 2) := by decide +kernel
theorem dX3_work_203 : decode cX3_work 203 = .ok (.invokestatic 52, 3) := by decide +kernel
theorem dX3_work_206 : decode cX3_work 206 = .ok (.invokevirtual 35, 3) := by decide +kernel
theorem dX3_work_209 : decode cX3_work 209 = .ok (.goto (-202), 3) := by decide +kernel
theorem dX3_work_212 : decode cX3_work 212 = .ok (.iconst 0, 1) := by decide +kernel
theorem dX3_work_213 : decode cX3_work 213 = .ok (.ireturn, 1) := by decide +kernel
theorem dX3_joined_0 : decode cX3_joined 0 = .ok (.iload_n 0, 1) := by decide +kernel
theorem dX3_joined_1 : decode cX3_joined 1 = .ok (.lookupswitch 188 #[(37, 115), (38, 160), (42, 99), (43, 91), (45, 95), (47, 103), (60, 127), (61, 138), (62, 149), (124, 174)], 91) := by decide +kernel
theorem dX3_joined_92 : decode cX3_joined 92 = .ok (.iload_n 1, 1) := by decide +kernel
theorem dX3_joined_93 : decode cX3_joined 93 = .ok (.iload_n 2, 1) := by decide +kernel
theorem dX3_joined_94 : decode cX3_joined 94 = .ok (.iadd, 1) := by decide +kernel
theorem dX3_joined_95 : decode cX3_joined 95 = .ok (.ireturn, 1) := by decide +kernel
theorem dX3_joined_96 : decode cX3_joined 96 = .ok (.iload_n 1, 1) := by decide +kernel
theorem dX3_joined_97 : decode cX3_joined 97 = .ok (.iload_n 2, 1) := by decide +kernel
theorem dX3_joined_98 : decode cX3_joined 98 = .ok (.isub, 1) := by decide +kernel
theorem dX3_joined_99 : decode cX3_joined 99 = .ok (.ireturn, 1) := by decide +kernel
theorem dX3_joined_100 : decode cX3_joined 100 = .ok (.iload_n 1, 1) := by decide +kernel
theorem dX3_joined_101 : decode cX3_joined 101 = .ok (.iload_n 2, 1) := by decide +kernel
theorem dX3_joined_102 : decode cX3_joined 102 = .ok (.imul, 1) := by decide +kernel
theorem dX3_joined_103 : decode cX3_joined 103 = .ok (.ireturn, 1) := by decide +kernel
theorem dX3_joined_104 : decode cX3_joined 104 = .ok (.iload_n 2, 1) := by decide +kernel
theorem dX3_joined_105 : decode cX3_joined 105 = .ok (.ifCond .ne 7, 3) := by decide +kernel
theorem dX3_joined_108 : decode cX3_joined 108 = .ok (.iconst 0, 1) := by decide +kernel
theorem dX3_joined_109 : decode cX3_joined 109 = .ok (.goto 6, 3) := by decide +kernel
theorem dX3_joined_112 : decode cX3_joined 112 = .ok (.iload_n 1, 1) := by decide +kernel
theorem dX3_joined_113 : decode cX3_joined 113 = .ok (.iload_n 2, 1) := by decide +kernel
theorem dX3_joined_114 : decode cX3_joined 114 = .ok (.idiv, 1) := by decide +kernel
theorem dX3_joined_115 : decode cX3_joined 115 = .ok (.ireturn, 1) := by decide +kernel
theorem dX3_joined_116 : decode cX3_joined 116 = .ok (.iload_n 2, 1) := by decide +kernel
theorem dX3_joined_117 : decode cX3_joined 117 = .ok (.ifCond .ne 7, 3) := by decide +kernel
theorem dX3_joined_120 : decode cX3_joined 120 = .ok (.iconst 0, 1) := by decide +kernel
theorem dX3_joined_121 : decode cX3_joined 121 = .ok (.goto 6, 3) := by decide +kernel
theorem dX3_joined_124 : decode cX3_joined 124 = .ok (.iload_n 1, 1) := by decide +kernel
theorem dX3_joined_125 : decode cX3_joined 125 = .ok (.iload_n 2, 1) := by decide +kernel
theorem dX3_joined_126 : decode cX3_joined 126 = .ok (.irem, 1) := by decide +kernel
theorem dX3_joined_127 : decode cX3_joined 127 = .ok (.ireturn, 1) := by decide +kernel
theorem dX3_joined_128 : decode cX3_joined 128 = .ok (.iload_n 1, 1) := by decide +kernel
theorem dX3_joined_129 : decode cX3_joined 129 = .ok (.iload_n 2, 1) := by decide +kernel
theorem dX3_joined_130 : decode cX3_joined 130 = .ok (.if_icmp .ge 7, 3) := by decide +kernel
theorem dX3_joined_133 : decode cX3_joined 133 = .ok (.iconst 1, 1) := by decide +kernel
theorem dX3_joined_134 : decode cX3_joined 134 = .ok (.goto 4, 3) := by decide +kernel
theorem dX3_joined_137 : decode cX3_joined 137 = .ok (.iconst 0, 1) := by decide +kernel
theorem dX3_joined_138 : decode cX3_joined 138 = .ok (.ireturn, 1) := by decide +kernel
theorem dX3_joined_139 : decode cX3_joined 139 = .ok (.iload_n 1, 1) := by decide +kernel
theorem dX3_joined_140 : decode cX3_joined 140 = .ok (.iload_n 2, 1) := by decide +kernel
theorem dX3_joined_141 : decode cX3_joined 141 = .ok (.if_icmp .ne 7, 3) := by decide +kernel
theorem dX3_joined_144 : decode cX3_joined 144 = .ok (.iconst 1, 1) := by decide +kernel
theorem dX3_joined_145 : decode cX3_joined 145 = .ok (.goto 4, 3) := by decide +kernel
theorem dX3_joined_148 : decode cX3_joined 148 = .ok (.iconst 0, 1) := by decide +kernel
theorem dX3_joined_149 : decode cX3_joined 149 = .ok (.ireturn, 1) := by decide +kernel
theorem dX3_joined_150 : decode cX3_joined 150 = .ok (.iload_n 1, 1) := by decide +kernel
theorem dX3_joined_151 : decode cX3_joined 151 = .ok (.iload_n 2, 1) := by decide +kernel
theorem dX3_joined_152 : decode cX3_joined 152 = .ok (.if_icmp .le 7, 3) := by decide +kernel
theorem dX3_joined_155 : decode cX3_joined 155 = .ok (.iconst 1, 1) := by decide +kernel
theorem dX3_joined_156 : decode cX3_joined 156 = .ok (.goto 4, 3) := by decide +kernel
theorem dX3_joined_159 : decode cX3_joined 159 = .ok (.iconst 0, 1) := by decide +kernel
theorem dX3_joined_160 : decode cX3_joined 160 = .ok (.ireturn, 1) := by decide +kernel
theorem dX3_joined_161 : decode cX3_joined 161 = .ok (.iload_n 1, 1) := by decide +kernel
theorem dX3_joined_162 : decode cX3_joined 162 = .ok (.ifCond .eq 11, 3) := by decide +kernel
theorem dX3_joined_165 : decode cX3_joined 165 = .ok (.iload_n 2, 1) := by decide +kernel
theorem dX3_joined_166 : decode cX3_joined 166 = .ok (.ifCond .eq 7, 3) := by decide +kernel
theorem dX3_joined_169 : decode cX3_joined 169 = .ok (.iconst 1, 1) := by decide +kernel
theorem dX3_joined_170 : decode cX3_joined 170 = .ok (.goto 4, 3) := by decide +kernel
theorem dX3_joined_173 : decode cX3_joined 173 = .ok (.iconst 0, 1) := by decide +kernel
theorem dX3_joined_174 : decode cX3_joined 174 = .ok (.ireturn, 1) := by decide +kernel
theorem dX3_joined_175 : decode cX3_joined 175 = .ok (.iload_n 1, 1) := by decide +kernel
theorem dX3_joined_176 : decode cX3_joined 176 = .ok (.ifCond .ne 7, 3) := by decide +kernel
theorem dX3_joined_179 : decode cX3_joined 179 = .ok (.iload_n 2, 1) := by decide +kernel
theorem dX3_joined_180 : decode cX3_joined 180 = .ok (.ifCond .eq 7, 3) := by decide +kernel
theorem dX3_joined_183 : decode cX3_joined 183 = .ok (.iconst 1, 1) := by decide +kernel
theorem dX3_joined_184 : decode cX3_joined 184 = .ok (.goto 4, 3) := by decide +kernel
theorem dX3_joined_187 : decode cX3_joined 187 = .ok (.iconst 0, 1) := by decide +kernel
theorem dX3_joined_188 : decode cX3_joined 188 = .ok (.ireturn, 1) := by decide +kernel
theorem dX3_joined_189 : decode cX3_joined 189 = .ok (.iconst 0, 1) := by decide +kernel
theorem dX3_joined_190 : decode cX3_joined 190 = .ok (.ireturn, 1) := by decide +kernel
theorem dX3_push_0 : decode cX3_push 0 = .ok (.aload_n 0, 1) := by decide +kernel
theorem dX3_push_1 : decode cX3_push 1 = .ok (.getfield 26, 3) := by decide +kernel
theorem dX3_push_4 : decode cX3_push 4 = .ok (.sipush 128, 3) := by decide +kernel
theorem dX3_push_7 : decode cX3_push 7 = .ok (.if_icmp .lt 4, 3) := by decide +kernel
theorem dX3_push_10 : decode cX3_push 10 = .ok (.return_, 1) := by decide +kernel
theorem dX3_push_11 : decode cX3_push 11 = .ok (.aload_n 0, 1) := by decide +kernel
theorem dX3_push_12 : decode cX3_push 12 = .ok (.getfield 16, 3) := by decide +kernel
theorem dX3_push_15 : decode cX3_push 15 = .ok (.aload_n 0, 1) := by decide +kernel
theorem dX3_push_16 : decode cX3_push 16 = .ok (.getfield 26, 3) := by decide +kernel
theorem dX3_push_19 : decode cX3_push 19 = .ok (.iload_n 1, 1) := by decide +kernel
theorem dX3_push_20 : decode cX3_push 20 = .ok (.iastore, 1) := by decide +kernel
theorem dX3_push_21 : decode cX3_push 21 = .ok (.aload_n 0, 1) := by decide +kernel
theorem dX3_push_22 : decode cX3_push 22 = .ok (.dup, 1) := by decide +kernel
theorem dX3_push_23 : decode cX3_push 23 = .ok (.getfield 26, 3) := by decide +kernel
theorem dX3_push_26 : decode cX3_push 26 = .ok (.iconst 1, 1) := by decide +kernel
theorem dX3_push_27 : decode cX3_push 27 = .ok (.iadd, 1) := by decide +kernel
theorem dX3_push_28 : decode cX3_push 28 = .ok (.putfield 26, 3) := by decide +kernel
theorem dX3_push_31 : decode cX3_push 31 = .ok (.return_, 1) := by decide +kernel
theorem dX3_pull_0 : decode cX3_pull 0 = .ok (.aload_n 0, 1) := by decide +kernel
theorem dX3_pull_1 : decode cX3_pull 1 = .ok (.getfield 26, 3) := by decide +kernel
theorem dX3_pull_4 : decode cX3_pull 4 = .ok (.ifCond .gt 5, 3) := by decide +kernel
theorem dX3_pull_7 : decode cX3_pull 7 = .ok (.iconst 0, 1) := by decide +kernel
theorem dX3_pull_8 : decode cX3_pull 8 = .ok (.ireturn, 1) := by decide +kernel
theorem dX3_pull_9 : decode cX3_pull 9 = .ok (.aload_n 0, 1) := by decide +kernel
theorem dX3_pull_10 : decode cX3_pull 10 = .ok (.dup, 1) := by decide +kernel
theorem dX3_pull_11 : decode cX3_pull 11 = .ok (.getfield 26, 3) := by decide +kernel
theorem dX3_pull_14 : decode cX3_pull 14 = .ok (.iconst 1, 1) := by decide +kernel
theorem dX3_pull_15 : decode cX3_pull 15 = .ok (.isub, 1) := by decide +kernel
theorem dX3_pull_16 : decode cX3_pull 16 = .ok (.putfield 26, 3) := by decide +kernel
theorem dX3_pull_19 : decode cX3_pull 19 = .ok (.aload_n 0, 1) := by decide +kernel
theorem dX3_pull_20 : decode cX3_pull 20 = .ok (.getfield 16, 3) := by decide +kernel
theorem dX3_pull_23 : decode cX3_pull 23 = .ok (.aload_n 0, 1) := by decide +kernel
theorem dX3_pull_24 : decode cX3_pull 24 = .ok (.getfield 26, 3) := by decide +kernel
theorem dX3_pull_27 : decode cX3_pull 27 = .ok (.iaload, 1) := by decide +kernel
theorem dX3_pull_28 : decode cX3_pull 28 = .ok (.ireturn, 1) := by decide +kernel
theorem dX4_init_0 : decode cX4_init 0 = .ok (.aload_n 0, 1) := by decide +kernel
theorem dX4_init_1 : decode cX4_init 1 = .ok (.invokespecial 3, 3) := by decide +kernel
theorem dX4_init_4 : decode cX4_init 4 = .ok (.aload_n 0, 1) := by decide +kernel
theorem dX4_init_5 : decode cX4_init 5 = .ok (.sipush 168, 3) := by decide +kernel
theorem dX4_init_8 : decode cX4_init 8 = .ok (.newarray .int, 2) := by decide +kernel
theorem dX4_init_10 : decode cX4_init 10 = .ok (.putfield 9, 3) := by decide +kernel
theorem dX4_init_13 : decode cX4_init 13 = .ok (.aload_n 0, 1) := by decide +kernel
theorem dX4_init_14 : decode cX4_init 14 = .ok (.sipush 168, 3) := by decide +kernel
theorem dX4_init_17 : decode cX4_init 17 = .ok (.newarray .int, 2) := by decide +kernel
theorem dX4_init_19 : decode cX4_init 19 = .ok (.putfield 15, 3) := by decide +kernel
theorem dX4_init_22 : decode cX4_init 22 = .ok (.aload_n 0, 1) := by decide +kernel
theorem dX4_init_23 : decode cX4_init 23 = .ok (.sipush 168, 3) := by decide +kernel
theorem dX4_init_26 : decode cX4_init 26 = .ok (.newarray .int, 2) := by decide +kernel
theorem dX4_init_28 : decode cX4_init 28 = .ok (.putfield 18, 3) := by decide +kernel
theorem dX4_init_31 : decode cX4_init 31 = .ok (.return_, 1) := by decide +kernel
theorem dX4_write_0 : decode cX4_write 0 = .ok (.aload_n 1, 1) := by decide +kernel
theorem dX4_write_1 : decode cX4_write 1 = .ok (.getfield 21, 3) := by decide +kernel
theorem dX4_write_4 : decode cX4_write 4 = .ok (.iconst 1, 1) := by decide +kernel
theorem dX4_write_5 : decode cX4_write 5 = .ok (.isub, 1) := by decide +kernel
theorem dX4_write_6 : decode cX4_write 6 = .ok (.bipush 7, 2) := by decide +kernel
theorem dX4_write_8 : decode cX4_write 8 = .ok (.imul, 1) := by decide +kernel
theorem dX4_write_9 : decode cX4_write 9 = .ok (.istore_n 2, 1) := by decide +kernel
theorem dX4_write_10 : decode cX4_write 10 = .ok (.iload_n 2, 1) := by decide +kernel
theorem dX4_write_11 : decode cX4_write 11 = .ok (.ifCond .lt 15, 3) := by decide +kernel
theorem dX4_write_14 : decode cX4_write 14 = .ok (.iload_n 2, 1) := by decide +kernel
theorem dX4_write_15 : decode cX4_write 15 = .ok (.bipush 7, 2) := by decide +kernel
theorem dX4_write_17 : decode cX4_write 17 = .ok (.iadd, 1) := by decide +kernel
theorem dX4_write_18 : decode cX4_write 18 = .ok (.aload_n 0, 1) := by decide +kernel
theorem dX4_write_19 : decode cX4_write 19 = .ok (.getfield 9, 3) := by decide +kernel
theorem dX4_write_22 : decode cX4_write 22 = .ok (.arraylength, 1) := by decide +kernel
theorem dX4_write_23 : decode cX4_write 23 = .ok (.if_icmp .le 4, 3) := by decide +kernel
theorem dX4_write_26 : decode cX4_write 26 = .ok (.return_, 1) := by decide +kernel
theorem dX4_write_27 : decode cX4_write 27 = .ok (.aload_n 1, 1) := by decide +kernel
theorem dX4_write_28 : decode cX4_write 28 = .ok (.getfield 27, 3) := by decide +kernel
theorem dX4_write_31 : decode cX4_write 31 = .ok (.iconst 0, 1) := by decide +kernel
theorem dX4_write_32 : decode cX4_write 32 = .ok (.aload_n 0, 1) := by decide +kernel
theorem dX4_write_33 : decode cX4_write 33 = .ok (.getfield 9, 3) := by decide +kernel
theorem dX4_write_36 : decode cX4_write 36 = .ok (.iload_n 2, 1) := by decide +kernel
theorem dX4_write_37 : decode cX4_write 37 = .ok (.bipush 7, 2) := by decide +kernel
theorem dX4_write_39 : decode cX4_write 39 = .ok (.invokestatic 28, 3) := by decide +kernel
theorem dX4_write_42 : decode cX4_write 42 = .ok (.aload_n 1, 1) := by decide +kernel
theorem dX4_write_43 : decode cX4_write 43 = .ok (.getfield 34, 3) := by decide +kernel
theorem dX4_write_46 : decode cX4_write 46 = .ok (.iconst 0, 1) := by decide +kernel
theorem dX4_write_47 : decode cX4_write 47 = .ok (.aload_n 0, 1) := by decide +kernel
theorem dX4_write_48 : decode cX4_write 48 = .ok (.getfield 15, 3) := by decide +kernel
theorem dX4_write_51 : decode cX4_write 51 = .ok (.iload_n 2, 1) := by decide +kernel
theorem dX4_write_52 : decode cX4_write 52 = .ok (.bipush 7, 2) := by decide +kernel
theorem dX4_write_54 : decode cX4_write 54 = .ok (.invokestatic 28, 3) := by decide +kernel
theorem dX4_write_57 : decode cX4_write 57 = .ok (.aload_n 1, 1) := by decide +kernel
theorem dX4_write_58 : decode cX4_write 58 = .ok (.getfield 35, 3) := by decide +kernel
theorem dX4_write_61 : decode cX4_write 61 = .ok (.iconst 0, 1) := by decide +kernel
theorem dX4_write_62 : decode cX4_write 62 = .ok (.aload_n 0, 1) := by decide +kernel
theorem dX4_write_63 : decode cX4_write 63 = .ok (.getfield 18, 3) := by decide +kernel
theorem dX4_write_66 : decode cX4_write 66 = .ok (.iload_n 2, 1) := by decide +kernel
theorem dX4_write_67 : decode cX4_write 67 = .ok (.bipush 7, 2) := by decide +kernel
theorem dX4_write_69 : decode cX4_write 69 = .ok (.invokestatic 28, 3) := by decide +kernel
theorem dX4_write_72 : decode cX4_write 72 = .ok (.return_, 1) := by decide +kernel
theorem dX4_isAs_0 : decode cX4_isAs 0 = .ok (.aload_n 1, 1) := by decide +kernel
theorem dX4_isAs_1 : decode cX4_isAs 1 = .ok (.getfield 21, 3) := by decide +kernel
theorem dX4_isAs_4 : decode cX4_isAs 4 = .ok (.iconst 1, 1) := by decide +kernel
theorem dX4_isAs_5 : decode cX4_isAs 5 = .ok (.isub, 1) := by decide +kernel
theorem dX4_isAs_6 : decode cX4_isAs 6 = .ok (.istore_n 3, 1) := by decide +kernel
theorem dX4_isAs_7 : decode cX4_isAs 7 = .ok (.iconst 0, 1) := by decide +kernel
theorem dX4_isAs_8 : decode cX4_isAs 8 = .ok (.istore 4, 2) := by decide +kernel
theorem dX4_isAs_10 : decode cX4_isAs 10 = .ok (.iload 4, 2) := by decide +kernel
theorem dX4_isAs_12 : decode cX4_isAs 12 = .ok (.iload_n 2, 1) := by decide +kernel
theorem dX4_isAs_13 : decode cX4_isAs 13 = .ok (.if_icmp .ge 66, 3) := by decide +kernel
theorem dX4_isAs_16 : decode cX4_isAs 16 = .ok (.aload_n 1, 1) := by decide +kernel
theorem dX4_isAs_17 : decode cX4_isAs 17 = .ok (.getfield 27, 3) := by decide +kernel
theorem dX4_isAs_20 : decode cX4_isAs 20 = .ok (.iload 4, 2) := by decide +kernel
theorem dX4_isAs_22 : decode cX4_isAs 22 = .ok (.iaload, 1) := by decide +kernel
theorem dX4_isAs_23 : decode cX4_isAs 23 = .ok (.aload_n 0, 1) := by decide +kernel
theorem dX4_isAs_24 : decode cX4_isAs 24 = .ok (.iload_n 3, 1) := by decide +kernel
theorem dX4_isAs_25 : decode cX4_isAs 25 = .ok (.iload 4, 2) := by decide +kernel
theorem dX4_isAs_27 : decode cX4_isAs 27 = .ok (.invokevirtual 36, 3) := by decide +kernel
theorem dX4_isAs_30 : decode cX4_isAs 30 = .ok (.if_icmp .eq 5, 3) := by decide +kernel
theorem dX4_isAs_33 : decode cX4_isAs 33 = .ok (.iconst 0, 1) := by decide +kernel
theorem dX4_isAs_34 : decode cX4_isAs 34 = .ok (.ireturn, 1) := by decide +kernel
theorem dX4_isAs_35 : decode cX4_isAs 35 = .ok (.aload_n 1, 1) := by decide +kernel
theorem dX4_isAs_36 : decode cX4_isAs 36 = .ok (.getfield 34, 3) := by decide +kernel
theorem dX4_isAs_39 : decode cX4_isAs 39 = .ok (.iload 4, 2) := by decide +kernel
theorem dX4_isAs_41 : decode cX4_isAs 41 = .ok (.iaload, 1) := by decide +kernel
theorem dX4_isAs_42 : decode cX4_isAs 42 = .ok (.aload_n 0, 1) := by decide +kernel
theorem dX4_isAs_43 : decode cX4_isAs 43 = .ok (.iload_n 3, 1) := by decide +kernel
theorem dX4_isAs_44 : decode cX4_isAs 44 = .ok (.iload 4, 2) := by decide +kernel
theorem dX4_isAs_46 : decode cX4_isAs 46 = .ok (.invokevirtual 40, 3) := by decide +kernel
theorem dX4_isAs_49 : decode cX4_isAs 49 = .ok (.if_icmp .eq 5, 3) := by decide +kernel
theorem dX4_isAs_52 : decode cX4_isAs 52 = .ok (.iconst 0, 1) := by decide +kernel
theorem dX4_isAs_53 : decode cX4_isAs 53 = .ok (.ireturn, 1) := by decide +kernel
theorem dX4_isAs_54 : decode cX4_isAs 54 = .ok (.aload_n 1, 1) := by decide +kernel
theorem dX4_isAs_55 : decode cX4_isAs 55 = .ok (.getfield 35, 3) := by decide +kernel
theorem dX4_isAs_58 : decode cX4_isAs 58 = .ok (.iload 4, 2) := by decide +kernel
theorem dX4_isAs_60 : decode cX4_isAs 60 = .ok (.iaload, 1) := by decide +kernel
theorem dX4_isAs_61 : decode cX4_isAs 61 = .ok (.aload_n 0, 1) := by decide +kernel
theorem dX4_isAs_62 : decode cX4_isAs 62 = .ok (.iload_n 3, 1) := by decide +kernel
theorem dX4_isAs_63 : decode cX4_isAs 63 = .ok (.iload 4, 2) := by decide +kernel
theorem dX4_isAs_65 : decode cX4_isAs 65 = .ok (.invokevirtual 43, 3) := by decide +kernel
theorem dX4_isAs_68 : decode cX4_isAs 68 = .ok (.if_icmp .eq 5, 3) := by decide +kernel
theorem dX4_isAs_71 : decode cX4_isAs 71 = .ok (.iconst 0, 1) := by decide +kernel
theorem dX4_isAs_72 : decode cX4_isAs 72 = .ok (.ireturn, 1) := by decide +kernel
theorem dX4_isAs_73 : decode cX4_isAs 73 = .ok (.iinc 4 1, 3) := by decide +kernel
theorem dX4_isAs_76 : decode cX4_isAs 76 = .ok (.goto (-66), 3) := by decide +kernel
theorem dX4_isAs_79 : decode cX4_isAs 79 = .ok (.iconst 1, 1) := by decide +kernel
theorem dX4_isAs_80 : decode cX4_isAs 80 = .ok (.ireturn, 1) := by decide +kernel
theorem dX4_leftOf_0 : decode cX4_leftOf 0 = .ok (.iload_n 1, 1) := by decide +kernel
theorem dX4_leftOf_1 : decode cX4_leftOf 1 = .ok (.iload_n 2, 1) := by decide +kernel
theorem dX4_leftOf_2 : decode cX4_leftOf 2 = .ok (.invokestatic 46, 3) := by decide +kernel
theorem dX4_leftOf_5 : decode cX4_leftOf 5 = .ok (.ifCond .eq 17, 3) := by decide +kernel
theorem dX4_leftOf_8 : decode cX4_leftOf 8 = .ok (.aload_n 0, 1) := by decide +kernel
theorem dX4_leftOf_9 : decode cX4_leftOf 9 = .ok (.getfield 9, 3) := by decide +kernel
theorem dX4_leftOf_12 : decode cX4_leftOf 12 = .ok (.iload_n 1, 1) := by decide +kernel
theorem dX4_leftOf_13 : decode cX4_leftOf 13 = .ok (.bipush 7, 2) := by decide +kernel
theorem dX4_leftOf_15 : decode cX4_leftOf 15 = .ok (.imul, 1) := by decide +kernel
theorem dX4_leftOf_16 : decode cX4_leftOf 16 = .ok (.iload_n 2, 1) := by decide +kernel
theorem dX4_leftOf_17 : decode cX4_leftOf 17 = .ok (.iadd, 1) := by decide +kernel
theorem dX4_leftOf_18 : decode cX4_leftOf 18 = .ok (.iaload, 1) := by decide +kernel
theorem dX4_leftOf_19 : decode cX4_leftOf 19 = .ok (.goto 4, 3) := by decide +kernel
theorem dX4_leftOf_22 : decode cX4_leftOf 22 = .ok (.iconst 0, 1) := by decide +kernel
theorem dX4_leftOf_23 : decode cX4_leftOf 23 = .ok (.ireturn, 1) := by decide +kernel
theorem dX4_rightOf_0 : decode cX4_rightOf 0 = .ok (.iload_n 1, 1) := by decide +kernel
theorem dX4_rightOf_1 : decode cX4_rightOf 1 = .ok (.iload_n 2, 1) := by decide +kernel
theorem dX4_rightOf_2 : decode cX4_rightOf 2 = .ok (.invokestatic 46, 3) := by decide +kernel
theorem dX4_rightOf_5 : decode cX4_rightOf 5 = .ok (.ifCond .eq 17, 3) := by decide +kernel
theorem dX4_rightOf_8 : decode cX4_rightOf 8 = .ok (.aload_n 0, 1) := by decide +kernel
theorem dX4_rightOf_9 : decode cX4_rightOf 9 = .ok (.getfield 15, 3) := by decide +kernel
theorem dX4_rightOf_12 : decode cX4_rightOf 12 = .ok (.iload_n 1, 1) := by decide +kernel
theorem dX4_rightOf_13 : decode cX4_rightOf 13 = .ok (.bipush 7, 2) := by decide +kernel
theorem dX4_rightOf_15 : decode cX4_rightOf 15 = .ok (.imul, 1) := by decide +kernel
theorem dX4_rightOf_16 : decode cX4_rightOf 16 = .ok (.iload_n 2, 1) := by decide +kernel
theorem dX4_rightOf_17 : decode cX4_rightOf 17 = .ok (.iadd, 1) := by decide +kernel
theorem dX4_rightOf_18 : decode cX4_rightOf 18 = .ok (.iaload, 1) := by decide +kernel
theorem dX4_rightOf_19 : decode cX4_rightOf 19 = .ok (.goto 4, 3) := by decide +kernel
theorem dX4_rightOf_22 : decode cX4_rightOf 22 = .ok (.iconst 0, 1) := by decide +kernel
theorem dX4_rightOf_23 : decode cX4_rightOf 23 = .ok (.ireturn, 1) := by decide +kernel
theorem dX4_fightOf_0 : decode cX4_fightOf 0 = .ok (.iload_n 1, 1) := by decide +kernel
theorem dX4_fightOf_1 : decode cX4_fightOf 1 = .ok (.iload_n 2, 1) := by decide +kernel
theorem dX4_fightOf_2 : decode cX4_fightOf 2 = .ok (.invokestatic 46, 3) := by decide +kernel
theorem dX4_fightOf_5 : decode cX4_fightOf 5 = .ok (.ifCond .eq 17, 3) := by decide +kernel
theorem dX4_fightOf_8 : decode cX4_fightOf 8 = .ok (.aload_n 0, 1) := by decide +kernel
theorem dX4_fightOf_9 : decode cX4_fightOf 9 = .ok (.getfield 18, 3) := by decide +kernel
theorem dX4_fightOf_12 : decode cX4_fightOf 12 = .ok (.iload_n 1, 1) := by decide +kernel
theorem dX4_fightOf_13 : decode cX4_fightOf 13 = .ok (.bipush 7, 2) := by decide +kernel
theorem dX4_fightOf_15 : decode cX4_fightOf 15 = .ok (.imul, 1) := by decide +kernel
theorem dX4_fightOf_16 : decode cX4_fightOf 16 = .ok (.iload_n 2, 1) := by decide +kernel
theorem dX4_fightOf_17 : decode cX4_fightOf 17 = .ok (.iadd, 1) := by decide +kernel
theorem dX4_fightOf_18 : decode cX4_fightOf 18 = .ok (.iaload, 1) := by decide +kernel
theorem dX4_fightOf_19 : decode cX4_fightOf 19 = .ok (.goto 4, 3) := by decide +kernel
theorem dX4_fightOf_22 : decode cX4_fightOf 22 = .ok (.iconst 0, 1) := by decide +kernel
theorem dX4_fightOf_23 : decode cX4_fightOf 23 = .ok (.ireturn, 1) := by decide +kernel
theorem dX4_isWithin_0 : decode cX4_isWithin 0 = .ok (.iload_n 0, 1) := by decide +kernel
theorem dX4_isWithin_1 : decode cX4_isWithin 1 = .ok (.ifCond .lt 23, 3) := by decide +kernel
theorem dX4_isWithin_4 : decode cX4_isWithin 4 = .ok (.iload_n 0, 1) := by decide +kernel
theorem dX4_isWithin_5 : decode cX4_isWithin 5 = .ok (.bipush 24, 2) := by decide +kernel
theorem dX4_isWithin_7 : decode cX4_isWithin 7 = .ok (.if_icmp .ge 17, 3) := by decide +kernel
theorem dX4_isWithin_10 : decode cX4_isWithin 10 = .ok (.iload_n 1, 1) := by decide +kernel
theorem dX4_isWithin_11 : decode cX4_isWithin 11 = .ok (.ifCond .lt 13, 3) := by decide +kernel
theorem dX4_isWithin_14 : decode cX4_isWithin 14 = .ok (.iload_n 1, 1) := by decide +kernel
theorem dX4_isWithin_15 : decode cX4_isWithin 15 = .ok (.bipush 7, 2) := by decide +kernel
theorem dX4_isWithin_17 : decode cX4_isWithin 17 = .ok (.if_icmp .ge 7, 3) := by decide +kernel
theorem dX4_isWithin_20 : decode cX4_isWithin 20 = .ok (.iconst 1, 1) := by decide +kernel
theorem dX4_isWithin_21 : decode cX4_isWithin 21 = .ok (.goto 4, 3) := by decide +kernel
theorem dX4_isWithin_24 : decode cX4_isWithin 24 = .ok (.iconst 0, 1) := by decide +kernel
theorem dX4_isWithin_25 : decode cX4_isWithin 25 = .ok (.ireturn, 1) := by decide +kernel
theorem dX5_init_0 : decode cX5_init 0 = .ok (.aload_n 0, 1) := by decide +kernel
theorem dX5_init_1 : decode cX5_init 1 = .ok (.invokespecial 3, 3) := by decide +kernel
theorem dX5_init_4 : decode cX5_init 4 = .ok (.aload_n 0, 1) := by decide +kernel
theorem dX5_init_5 : decode cX5_init 5 = .ok (.bipush 60, 2) := by decide +kernel
theorem dX5_init_7 : decode cX5_init 7 = .ok (.newarray .long, 2) := by decide +kernel
theorem dX5_init_9 : decode cX5_init 9 = .ok (.putfield 11, 3) := by decide +kernel
theorem dX5_init_12 : decode cX5_init 12 = .ok (.aload_n 0, 1) := by decide +kernel
theorem dX5_init_13 : decode cX5_init 13 = .ok (.iconst 0, 1) := by decide +kernel
theorem dX5_init_14 : decode cX5_init 14 = .ok (.putfield 15, 3) := by decide +kernel
theorem dX5_init_17 : decode cX5_init 17 = .ok (.aload_n 0, 1) := by decide +kernel
theorem dX5_init_18 : decode cX5_init 18 = .ok (.bipush (-2), 2) := by decide +kernel
theorem dX5_init_20 : decode cX5_init 20 = .ok (.putfield 19, 3) := by decide +kernel
theorem dX5_init_23 : decode cX5_init 23 = .ok (.aload_n 0, 1) := by decide +kernel
theorem dX5_init_24 : decode cX5_init 24 = .ok (.iconst (-1), 1) := by decide +kernel
theorem dX5_init_25 : decode cX5_init 25 = .ok (.putfield 22, 3) := by decide +kernel
theorem dX5_init_28 : decode cX5_init 28 = .ok (.return_, 1) := by decide +kernel
theorem dX5_isRow_0 : decode cX5_isRow 0 = .ok (.aload_n 0, 1) := by decide +kernel
theorem dX5_isRow_1 : decode cX5_isRow 1 = .ok (.getfield 19, 3) := by decide +kernel
theorem dX5_isRow_4 : decode cX5_isRow 4 = .ok (.ifCond .lt 7, 3) := by decide +kernel
theorem dX5_isRow_7 : decode cX5_isRow 7 = .ok (.iconst 1, 1) := by decide +kernel
theorem dX5_isRow_8 : decode cX5_isRow 8 = .ok (.goto 4, 3) := by decide +kernel
theorem dX5_isRow_11 : decode cX5_isRow 11 = .ok (.iconst 0, 1) := by decide +kernel
theorem dX5_isRow_12 : decode cX5_isRow 12 = .ok (.ireturn, 1) := by decide +kernel
theorem dX5_hasPlace_0 : decode cX5_hasPlace 0 = .ok (.iload_n 1, 1) := by decide +kernel
theorem dX5_hasPlace_1 : decode cX5_hasPlace 1 = .ok (.ifCond .lt 15, 3) := by decide +kernel
theorem dX5_hasPlace_4 : decode cX5_hasPlace 4 = .ok (.iload_n 1, 1) := by decide +kernel
theorem dX5_hasPlace_5 : decode cX5_hasPlace 5 = .ok (.aload_n 0, 1) := by decide +kernel
theorem dX5_hasPlace_6 : decode cX5_hasPlace 6 = .ok (.getfield 15, 3) := by decide +kernel
theorem dX5_hasPlace_9 : decode cX5_hasPlace 9 = .ok (.if_icmp .ge 7, 3) := by decide +kernel
theorem dX5_hasPlace_12 : decode cX5_hasPlace 12 = .ok (.iconst 1, 1) := by decide +kernel
theorem dX5_hasPlace_13 : decode cX5_hasPlace 13 = .ok (.goto 4, 3) := by decide +kernel
theorem dX5_hasPlace_16 : decode cX5_hasPlace 16 = .ok (.iconst 0, 1) := by decide +kernel
theorem dX5_hasPlace_17 : decode cX5_hasPlace 17 = .ok (.ireturn, 1) := by decide +kernel
theorem dX5_hasPlaces_0 : decode cX5_hasPlaces 0 = .ok (.iload_n 1, 1) := by decide +kernel
theorem dX5_hasPlaces_1 : decode cX5_hasPlaces 1 = .ok (.ifCond .lt 21, 3) := by decide +kernel
theorem dX5_hasPlaces_4 : decode cX5_hasPlaces 4 = .ok (.iload_n 2, 1) := by decide +kernel
theorem dX5_hasPlaces_5 : decode cX5_hasPlaces 5 = .ok (.ifCond .lt 17, 3) := by decide +kernel
theorem dX5_hasPlaces_8 : decode cX5_hasPlaces 8 = .ok (.iload_n 1, 1) := by decide +kernel
theorem dX5_hasPlaces_9 : decode cX5_hasPlaces 9 = .ok (.aload_n 0, 1) := by decide +kernel
theorem dX5_hasPlaces_10 : decode cX5_hasPlaces 10 = .ok (.getfield 15, 3) := by decide +kernel
theorem dX5_hasPlaces_13 : decode cX5_hasPlaces 13 = .ok (.iload_n 2, 1) := by decide +kernel
theorem dX5_hasPlaces_14 : decode cX5_hasPlaces 14 = .ok (.isub, 1) := by decide +kernel
theorem dX5_hasPlaces_15 : decode cX5_hasPlaces 15 = .ok (.if_icmp .gt 7, 3) := by decide +kernel
theorem dX5_hasPlaces_18 : decode cX5_hasPlaces 18 = .ok (.iconst 1, 1) := by decide +kernel
theorem dX5_hasPlaces_19 : decode cX5_hasPlaces 19 = .ok (.goto 4, 3) := by decide +kernel
theorem dX5_hasPlaces_22 : decode cX5_hasPlaces 22 = .ok (.iconst 0, 1) := by decide +kernel
theorem dX5_hasPlaces_23 : decode cX5_hasPlaces 23 = .ok (.ireturn, 1) := by decide +kernel
theorem dX5_clear_0 : decode cX5_clear 0 = .ok (.aload_n 0, 1) := by decide +kernel
theorem dX5_clear_1 : decode cX5_clear 1 = .ok (.bipush (-2), 2) := by decide +kernel
theorem dX5_clear_3 : decode cX5_clear 3 = .ok (.iconst 0, 1) := by decide +kernel
theorem dX5_clear_4 : decode cX5_clear 4 = .ok (.iconst (-1), 1) := by decide +kernel
theorem dX5_clear_5 : decode cX5_clear 5 = .ok (.invokevirtual 25, 3) := by decide +kernel
theorem dX5_clear_8 : decode cX5_clear 8 = .ok (.return_, 1) := by decide +kernel
theorem dX5_hold_0 : decode cX5_hold 0 = .ok (.aload_n 0, 1) := by decide +kernel
theorem dX5_hold_1 : decode cX5_hold 1 = .ok (.iconst (-1), 1) := by decide +kernel
theorem dX5_hold_2 : decode cX5_hold 2 = .ok (.iconst 0, 1) := by decide +kernel
theorem dX5_hold_3 : decode cX5_hold 3 = .ok (.iload_n 1, 1) := by decide +kernel
theorem dX5_hold_4 : decode cX5_hold 4 = .ok (.invokevirtual 25, 3) := by decide +kernel
theorem dX5_hold_7 : decode cX5_hold 7 = .ok (.return_, 1) := by decide +kernel
theorem dX5_layRow_0 : decode cX5_layRow 0 = .ok (.aload_n 0, 1) := by decide +kernel
theorem dX5_layRow_1 : decode cX5_layRow 1 = .ok (.getfield 11, 3) := by decide +kernel
theorem dX5_layRow_4 : decode cX5_layRow 4 = .ok (.lconst 0, 1) := by decide +kernel
theorem dX5_layRow_5 : decode cX5_layRow 5 = .ok (.invokestatic 29, 3) := by decide +kernel
theorem dX5_layRow_8 : decode cX5_layRow 8 = .ok (.aload_n 0, 1) := by decide +kernel
theorem dX5_layRow_9 : decode cX5_layRow 9 = .ok (.iload_n 1, 1) := by decide +kernel
theorem dX5_layRow_10 : decode cX5_layRow 10 = .ok (.iload_n 2, 1) := by decide +kernel
theorem dX5_layRow_11 : decode cX5_layRow 11 = .ok (.iconst (-1), 1) := by decide +kernel
theorem dX5_layRow_12 : decode cX5_layRow 12 = .ok (.invokevirtual 25, 3) := by decide +kernel
theorem dX5_layRow_15 : decode cX5_layRow 15 = .ok (.return_, 1) := by decide +kernel
theorem dX5_lay_0 : decode cX5_lay 0 = .ok (.aload_n 0, 1) := by decide +kernel
theorem dX5_lay_1 : decode cX5_lay 1 = .ok (.iload_n 1, 1) := by decide +kernel
theorem dX5_lay_2 : decode cX5_lay 2 = .ok (.invokevirtual 35, 3) := by decide +kernel
theorem dX5_lay_5 : decode cX5_lay 5 = .ok (.ifCond .eq 14, 3) := by decide +kernel
theorem dX5_lay_8 : decode cX5_lay 8 = .ok (.aload_n 0, 1) := by decide +kernel
theorem dX5_lay_9 : decode cX5_lay 9 = .ok (.getfield 11, 3) := by decide +kernel
theorem dX5_lay_12 : decode cX5_lay 12 = .ok (.iload_n 1, 1) := by decide +kernel
theorem dX5_lay_13 : decode cX5_lay 13 = .ok (.aload_n 0, 1) := by decide +kernel
theorem dX5_lay_14 : decode cX5_lay 14 = .ok (.lload_n 2, 1) := by decide +kernel
theorem dX5_lay_15 : decode cX5_lay 15 = .ok (.invokevirtual 39, 3) := by decide +kernel
theorem dX5_lay_18 : decode cX5_lay 18 = .ok (.lastore, 1) := by decide +kernel
theorem dX5_lay_19 : decode cX5_lay 19 = .ok (.return_, 1) := by decide +kernel
theorem dX5_at_0 : decode cX5_at 0 = .ok (.aload_n 0, 1) := by decide +kernel
theorem dX5_at_1 : decode cX5_at 1 = .ok (.iload_n 1, 1) := by decide +kernel
theorem dX5_at_2 : decode cX5_at 2 = .ok (.invokevirtual 35, 3) := by decide +kernel
theorem dX5_at_5 : decode cX5_at 5 = .ok (.ifCond .eq 12, 3) := by decide +kernel
theorem dX5_at_8 : decode cX5_at 8 = .ok (.aload_n 0, 1) := by decide +kernel
theorem dX5_at_9 : decode cX5_at 9 = .ok (.getfield 11, 3) := by decide +kernel
theorem dX5_at_12 : decode cX5_at 12 = .ok (.iload_n 1, 1) := by decide +kernel
theorem dX5_at_13 : decode cX5_at 13 = .ok (.laload, 1) := by decide +kernel
theorem dX5_at_14 : decode cX5_at 14 = .ok (.goto 4, 3) := by decide +kernel
theorem dX5_at_17 : decode cX5_at 17 = .ok (.lconst 0, 1) := by decide +kernel
theorem dX5_at_18 : decode cX5_at 18 = .ok (.lreturn, 1) := by decide +kernel
theorem dX5_become_0 : decode cX5_become 0 = .ok (.aload_n 0, 1) := by decide +kernel
theorem dX5_become_1 : decode cX5_become 1 = .ok (.iload_n 1, 1) := by decide +kernel
theorem dX5_become_2 : decode cX5_become 2 = .ok (.putfield 19, 3) := by decide +kernel
theorem dX5_become_5 : decode cX5_become 5 = .ok (.aload_n 0, 1) := by decide +kernel
theorem dX5_become_6 : decode cX5_become 6 = .ok (.iload_n 2, 1) := by decide +kernel
theorem dX5_become_7 : decode cX5_become 7 = .ok (.putfield 15, 3) := by decide +kernel
theorem dX5_become_10 : decode cX5_become 10 = .ok (.aload_n 0, 1) := by decide +kernel
theorem dX5_become_11 : decode cX5_become 11 = .ok (.iload_n 3, 1) := by decide +kernel
theorem dX5_become_12 : decode cX5_become 12 = .ok (.putfield 22, 3) := by decide +kernel
theorem dX5_become_15 : decode cX5_become 15 = .ok (.return_, 1) := by decide +kernel
theorem dX5_lowestBits_0 : decode cX5_lowestBits 0 = .ok (.aload_n 0, 1) := by decide +kernel
theorem dX5_lowestBits_1 : decode cX5_lowestBits 1 = .ok (.getfield 19, 3) := by decide +kernel
theorem dX5_lowestBits_4 : decode cX5_lowestBits 4 = .ok (.tableswitch 62 0 4 #[36, 41, 46, 62, 50], 36) := by decide +kernel
theorem dX5_lowestBits_40 : decode cX5_lowestBits 40 = .ok (.lload_n 1, 1) := by decide +kernel
theorem dX5_lowestBits_41 : decode cX5_lowestBits 41 = .ok (.l2i, 1) := by decide +kernel
theorem dX5_lowestBits_42 : decode cX5_lowestBits 42 = .ok (.i2b, 1) := by decide +kernel
theorem dX5_lowestBits_43 : decode cX5_lowestBits 43 = .ok (.i2l, 1) := by decide +kernel
theorem dX5_lowestBits_44 : decode cX5_lowestBits 44 = .ok (.lreturn, 1) := by decide +kernel
theorem dX5_lowestBits_45 : decode cX5_lowestBits 45 = .ok (.lload_n 1, 1) := by decide +kernel
theorem dX5_lowestBits_46 : decode cX5_lowestBits 46 = .ok (.l2i, 1) := by decide +kernel
theorem dX5_lowestBits_47 : decode cX5_lowestBits 47 = .ok (.i2s, 1) := by decide +kernel
theorem dX5_lowestBits_48 : decode cX5_lowestBits 48 = .ok (.i2l, 1) := by decide +kernel
theorem dX5_lowestBits_49 : decode cX5_lowestBits 49 = .ok (.lreturn, 1) := by decide +kernel
theorem dX5_lowestBits_50 : decode cX5_lowestBits 50 = .ok (.lload_n 1, 1) := by decide +kernel
theorem dX5_lowestBits_51 : decode cX5_lowestBits 51 = .ok (.l2i, 1) := by decide +kernel
theorem dX5_lowestBits_52 : decode cX5_lowestBits 52 = .ok (.i2l, 1) := by decide +kernel
theorem dX5_lowestBits_53 : decode cX5_lowestBits 53 = .ok (.lreturn, 1) := by decide +kernel
theorem dX5_lowestBits_54 : decode cX5_lowestBits 54 = .ok (.lload_n 1, 1) := by decide +kernel
theorem dX5_lowestBits_55 : decode cX5_lowestBits 55 = .ok (.lconst 0, 1) := by decide +kernel
theorem dX5_lowestBits_56 : decode cX5_lowestBits 56 = .ok (.lcmp, 1) := by decide +kernel
theorem dX5_lowestBits_57 : decode cX5_lowestBits 57 = .ok (.ifCond .eq 7, 3) := by decide +kernel
theorem dX5_lowestBits_60 : decode cX5_lowestBits 60 = .ok (.lconst 1, 1) := by decide +kernel
theorem dX5_lowestBits_61 : decode cX5_lowestBits 61 = .ok (.goto 4, 3) := by decide +kernel
theorem dX5_lowestBits_64 : decode cX5_lowestBits 64 = .ok (.lconst 0, 1) := by decide +kernel
theorem dX5_lowestBits_65 : decode cX5_lowestBits 65 = .ok (.lreturn, 1) := by decide +kernel
theorem dX5_lowestBits_66 : decode cX5_lowestBits 66 = .ok (.lload_n 1, 1) := by decide +kernel
theorem dX5_lowestBits_67 : decode cX5_lowestBits 67 = .ok (.lreturn, 1) := by decide +kernel
theorem dX6_init_0 : decode cX6_init 0 = .ok (.aload_n 0, 1) := by decide +kernel
theorem dX6_init_1 : decode cX6_init 1 = .ok (.invokespecial 3, 3) := by decide +kernel
theorem dX6_init_4 : decode cX6_init 4 = .ok (.aload_n 0, 1) := by decide +kernel
theorem dX6_init_5 : decode cX6_init 5 = .ok (.bipush 40, 2) := by decide +kernel
theorem dX6_init_7 : decode cX6_init 7 = .ok (.newarray .int, 2) := by decide +kernel
theorem dX6_init_9 : decode cX6_init 9 = .ok (.putfield 9, 3) := by decide +kernel
theorem dX6_init_12 : decode cX6_init 12 = .ok (.aload_n 0, 1) := by decide +kernel
theorem dX6_init_13 : decode cX6_init 13 = .ok (.sipush 192, 3) := by decide +kernel
theorem dX6_init_16 : decode cX6_init 16 = .ok (.newarray .int, 2) := by decide +kernel
theorem dX6_init_18 : decode cX6_init 18 = .ok (.putfield 15, 3) := by decide +kernel
theorem dX6_init_21 : decode cX6_init 21 = .ok (.aload_n 0, 1) := by decide +kernel
theorem dX6_init_22 : decode cX6_init 22 = .ok (.iconst 0, 1) := by decide +kernel
theorem dX6_init_23 : decode cX6_init 23 = .ok (.putfield 18, 3) := by decide +kernel
theorem dX6_init_26 : decode cX6_init 26 = .ok (.return_, 1) := by decide +kernel
theorem dX6_number_0 : decode cX6_number 0 = .ok (.aload_n 0, 1) := by decide +kernel
theorem dX6_number_1 : decode cX6_number 1 = .ok (.getfield 18, 3) := by decide +kernel
theorem dX6_number_4 : decode cX6_number 4 = .ok (.ireturn, 1) := by decide +kernel
theorem dX6_rests_0 : decode cX6_rests 0 = .ok (.aload_n 0, 1) := by decide +kernel
theorem dX6_rests_1 : decode cX6_rests 1 = .ok (.getfield 18, 3) := by decide +kernel
theorem dX6_rests_4 : decode cX6_rests 4 = .ok (.ifCond .le 12, 3) := by decide +kernel
theorem dX6_rests_7 : decode cX6_rests 7 = .ok (.aload_n 0, 1) := by decide +kernel
theorem dX6_rests_8 : decode cX6_rests 8 = .ok (.getfield 18, 3) := by decide +kernel
theorem dX6_rests_11 : decode cX6_rests 11 = .ok (.iconst 1, 1) := by decide +kernel
theorem dX6_rests_12 : decode cX6_rests 12 = .ok (.isub, 1) := by decide +kernel
theorem dX6_rests_13 : decode cX6_rests 13 = .ok (.goto 4, 3) := by decide +kernel
theorem dX6_rests_16 : decode cX6_rests 16 = .ok (.iconst 0, 1) := by decide +kernel
theorem dX6_rests_17 : decode cX6_rests 17 = .ok (.ireturn, 1) := by decide +kernel
theorem dX6_has_0 : decode cX6_has 0 = .ok (.iload_n 1, 1) := by decide +kernel
theorem dX6_has_1 : decode cX6_has 1 = .ok (.ifCond .lt 15, 3) := by decide +kernel
theorem dX6_has_4 : decode cX6_has 4 = .ok (.iload_n 1, 1) := by decide +kernel
theorem dX6_has_5 : decode cX6_has 5 = .ok (.aload_n 0, 1) := by decide +kernel
theorem dX6_has_6 : decode cX6_has 6 = .ok (.getfield 18, 3) := by decide +kernel
theorem dX6_has_9 : decode cX6_has 9 = .ok (.if_icmp .ge 7, 3) := by decide +kernel
theorem dX6_has_12 : decode cX6_has 12 = .ok (.iconst 1, 1) := by decide +kernel
theorem dX6_has_13 : decode cX6_has 13 = .ok (.goto 4, 3) := by decide +kernel
theorem dX6_has_16 : decode cX6_has 16 = .ok (.iconst 0, 1) := by decide +kernel
theorem dX6_has_17 : decode cX6_has 17 = .ok (.ireturn, 1) := by decide +kernel
theorem dX6_hasRest_0 : decode cX6_hasRest 0 = .ok (.iload_n 1, 1) := by decide +kernel
theorem dX6_hasRest_1 : decode cX6_hasRest 1 = .ok (.ifCond .lt 17, 3) := by decide +kernel
theorem dX6_hasRest_4 : decode cX6_hasRest 4 = .ok (.iload_n 1, 1) := by decide +kernel
theorem dX6_hasRest_5 : decode cX6_hasRest 5 = .ok (.aload_n 0, 1) := by decide +kernel
theorem dX6_hasRest_6 : decode cX6_hasRest 6 = .ok (.getfield 18, 3) := by decide +kernel
theorem dX6_hasRest_9 : decode cX6_hasRest 9 = .ok (.iconst 1, 1) := by decide +kernel
theorem dX6_hasRest_10 : decode cX6_hasRest 10 = .ok (.isub, 1) := by decide +kernel
theorem dX6_hasRest_11 : decode cX6_hasRest 11 = .ok (.if_icmp .ge 7, 3) := by decide +kernel
theorem dX6_hasRest_14 : decode cX6_hasRest 14 = .ok (.iconst 1, 1) := by decide +kernel
theorem dX6_hasRest_15 : decode cX6_hasRest 15 = .ok (.goto 4, 3) := by decide +kernel
theorem dX6_hasRest_18 : decode cX6_hasRest 18 = .ok (.iconst 0, 1) := by decide +kernel
theorem dX6_hasRest_19 : decode cX6_hasRest 19 = .ok (.ireturn, 1) := by decide +kernel
theorem dX6_add_0 : decode cX6_add 0 = .ok (.aload_n 0, 1) := by decide +kernel
theorem dX6_add_1 : decode cX6_add 1 = .ok (.getfield 18, 3) := by decide +kernel
theorem dX6_add_4 : decode cX6_add 4 = .ok (.bipush 8, 2) := by decide +kernel
theorem dX6_add_6 : decode cX6_add 6 = .ok (.if_icmp .lt 6, 3) := by decide +kernel
theorem dX6_add_9 : decode cX6_add 9 = .ok (.bipush (-3), 2) := by decide +kernel
theorem dX6_add_11 : decode cX6_add 11 = .ok (.ireturn, 1) := by decide +kernel
theorem dX6_add_12 : decode cX6_add 12 = .ok (.aload_n 0, 1) := by decide +kernel
theorem dX6_add_13 : decode cX6_add 13 = .ok (.dup, 1) := by decide +kernel
theorem dX6_add_14 : decode cX6_add 14 = .ok (.getfield 18, 3) := by decide +kernel
theorem dX6_add_17 : decode cX6_add 17 = .ok (.iconst 1, 1) := by decide +kernel
theorem dX6_add_18 : decode cX6_add 18 = .ok (.iadd, 1) := by decide +kernel
theorem dX6_add_19 : decode cX6_add 19 = .ok (.putfield 18, 3) := by decide +kernel
theorem dX6_add_22 : decode cX6_add 22 = .ok (.aload_n 0, 1) := by decide +kernel
theorem dX6_add_23 : decode cX6_add 23 = .ok (.aload_n 0, 1) := by decide +kernel
theorem dX6_add_24 : decode cX6_add 24 = .ok (.getfield 18, 3) := by decide +kernel
theorem dX6_add_27 : decode cX6_add 27 = .ok (.iconst 1, 1) := by decide +kernel
theorem dX6_add_28 : decode cX6_add 28 = .ok (.isub, 1) := by decide +kernel
theorem dX6_add_29 : decode cX6_add 29 = .ok (.iconst 0, 1) := by decide +kernel
theorem dX6_add_30 : decode cX6_add 30 = .ok (.iload_n 1, 1) := by decide +kernel
theorem dX6_add_31 : decode cX6_add 31 = .ok (.invokevirtual 22, 3) := by decide +kernel
theorem dX6_add_34 : decode cX6_add 34 = .ok (.aload_n 0, 1) := by decide +kernel
theorem dX6_add_35 : decode cX6_add 35 = .ok (.aload_n 0, 1) := by decide +kernel
theorem dX6_add_36 : decode cX6_add 36 = .ok (.getfield 18, 3) := by decide +kernel
theorem dX6_add_39 : decode cX6_add 39 = .ok (.iconst 1, 1) := by decide +kernel
theorem dX6_add_40 : decode cX6_add 40 = .ok (.isub, 1) := by decide +kernel
theorem dX6_add_41 : decode cX6_add 41 = .ok (.iconst 1, 1) := by decide +kernel
theorem dX6_add_42 : decode cX6_add 42 = .ok (.iload_n 2, 1) := by decide +kernel
theorem dX6_add_43 : decode cX6_add 43 = .ok (.invokevirtual 22, 3) := by decide +kernel
theorem dX6_add_46 : decode cX6_add 46 = .ok (.aload_n 0, 1) := by decide +kernel
theorem dX6_add_47 : decode cX6_add 47 = .ok (.aload_n 0, 1) := by decide +kernel
theorem dX6_add_48 : decode cX6_add 48 = .ok (.getfield 18, 3) := by decide +kernel
theorem dX6_add_51 : decode cX6_add 51 = .ok (.iconst 1, 1) := by decide +kernel
theorem dX6_add_52 : decode cX6_add 52 = .ok (.isub, 1) := by decide +kernel
theorem dX6_add_53 : decode cX6_add 53 = .ok (.iconst 2, 1) := by decide +kernel
theorem dX6_add_54 : decode cX6_add 54 = .ok (.iload_n 3, 1) := by decide +kernel
theorem dX6_add_55 : decode cX6_add 55 = .ok (.invokevirtual 22, 3) := by decide +kernel
theorem dX6_add_58 : decode cX6_add 58 = .ok (.aload_n 0, 1) := by decide +kernel
theorem dX6_add_59 : decode cX6_add 59 = .ok (.getfield 18, 3) := by decide +kernel
theorem dX6_add_62 : decode cX6_add 62 = .ok (.iconst 1, 1) := by decide +kernel
theorem dX6_add_63 : decode cX6_add 63 = .ok (.isub, 1) := by decide +kernel
theorem dX6_add_64 : decode cX6_add 64 = .ok (.ireturn, 1) := by decide +kernel
theorem dX6_trait_0 : decode cX6_trait 0 = .ok (.aload_n 0, 1) := by decide +kernel
theorem dX6_trait_1 : decode cX6_trait 1 = .ok (.iload_n 1, 1) := by decide +kernel
theorem dX6_trait_2 : decode cX6_trait 2 = .ok (.invokevirtual 26, 3) := by decide +kernel
theorem dX6_trait_5 : decode cX6_trait 5 = .ok (.ifCond .eq 12, 3) := by decide +kernel
theorem dX6_trait_8 : decode cX6_trait 8 = .ok (.iload_n 2, 1) := by decide +kernel
theorem dX6_trait_9 : decode cX6_trait 9 = .ok (.ifCond .lt 8, 3) := by decide +kernel
theorem dX6_trait_12 : decode cX6_trait 12 = .ok (.iload_n 2, 1) := by decide +kernel
theorem dX6_trait_13 : decode cX6_trait 13 = .ok (.iconst 5, 1) := by decide +kernel
theorem dX6_trait_14 : decode cX6_trait 14 = .ok (.if_icmp .lt 5, 3) := by decide +kernel
theorem dX6_trait_17 : decode cX6_trait 17 = .ok (.iconst 0, 1) := by decide +kernel
theorem dX6_trait_18 : decode cX6_trait 18 = .ok (.ireturn, 1) := by decide +kernel
theorem dX6_trait_19 : decode cX6_trait 19 = .ok (.aload_n 0, 1) := by decide +kernel
theorem dX6_trait_20 : decode cX6_trait 20 = .ok (.getfield 9, 3) := by decide +kernel
theorem dX6_trait_23 : decode cX6_trait 23 = .ok (.iload_n 1, 1) := by decide +kernel
theorem dX6_trait_24 : decode cX6_trait 24 = .ok (.iconst 5, 1) := by decide +kernel
theorem dX6_trait_25 : decode cX6_trait 25 = .ok (.imul, 1) := by decide +kernel
theorem dX6_trait_26 : decode cX6_trait 26 = .ok (.iload_n 2, 1) := by decide +kernel
theorem dX6_trait_27 : decode cX6_trait 27 = .ok (.iadd, 1) := by decide +kernel
theorem dX6_trait_28 : decode cX6_trait 28 = .ok (.iaload, 1) := by decide +kernel
theorem dX6_trait_29 : decode cX6_trait 29 = .ok (.ireturn, 1) := by decide +kernel
theorem dX6_become_0 : decode cX6_become 0 = .ok (.aload_n 0, 1) := by decide +kernel
theorem dX6_become_1 : decode cX6_become 1 = .ok (.iload_n 1, 1) := by decide +kernel
theorem dX6_become_2 : decode cX6_become 2 = .ok (.invokevirtual 26, 3) := by decide +kernel
theorem dX6_become_5 : decode cX6_become 5 = .ok (.ifCond .eq 12, 3) := by decide +kernel
theorem dX6_become_8 : decode cX6_become 8 = .ok (.iload_n 2, 1) := by decide +kernel
theorem dX6_become_9 : decode cX6_become 9 = .ok (.ifCond .lt 8, 3) := by decide +kernel
theorem dX6_become_12 : decode cX6_become 12 = .ok (.iload_n 2, 1) := by decide +kernel
theorem dX6_become_13 : decode cX6_become 13 = .ok (.iconst 5, 1) := by decide +kernel
theorem dX6_become_14 : decode cX6_become 14 = .ok (.if_icmp .lt 4, 3) := by decide +kernel
theorem dX6_become_17 : decode cX6_become 17 = .ok (.return_, 1) := by decide +kernel
theorem dX6_become_18 : decode cX6_become 18 = .ok (.aload_n 0, 1) := by decide +kernel
theorem dX6_become_19 : decode cX6_become 19 = .ok (.getfield 9, 3) := by decide +kernel
theorem dX6_become_22 : decode cX6_become 22 = .ok (.iload_n 1, 1) := by decide +kernel
theorem dX6_become_23 : decode cX6_become 23 = .ok (.iconst 5, 1) := by decide +kernel
theorem dX6_become_24 : decode cX6_become 24 = .ok (.imul, 1) := by decide +kernel
theorem dX6_become_25 : decode cX6_become 25 = .ok (.iload_n 2, 1) := by decide +kernel
theorem dX6_become_26 : decode cX6_become 26 = .ok (.iadd, 1) := by decide +kernel
theorem dX6_become_27 : decode cX6_become 27 = .ok (.iload_n 3, 1) := by decide +kernel
theorem dX6_become_28 : decode cX6_become 28 = .ok (.iastore, 1) := by decide +kernel
theorem dX6_become_29 : decode cX6_become 29 = .ok (.return_, 1) := by decide +kernel
theorem dX6_how_0 : decode cX6_how 0 = .ok (.aload_n 0, 1) := by decide +kernel
theorem dX6_how_1 : decode cX6_how 1 = .ok (.iload_n 1, 1) := by decide +kernel
theorem dX6_how_2 : decode cX6_how 2 = .ok (.invokevirtual 26, 3) := by decide +kernel
theorem dX6_how_5 : decode cX6_how 5 = .ok (.ifCond .eq 13, 3) := by decide +kernel
theorem dX6_how_8 : decode cX6_how 8 = .ok (.iload_n 2, 1) := by decide +kernel
theorem dX6_how_9 : decode cX6_how 9 = .ok (.ifCond .lt 9, 3) := by decide +kernel
theorem dX6_how_12 : decode cX6_how 12 = .ok (.iload_n 2, 1) := by decide +kernel
theorem dX6_how_13 : decode cX6_how 13 = .ok (.bipush 24, 2) := by decide +kernel
theorem dX6_how_15 : decode cX6_how 15 = .ok (.if_icmp .lt 5, 3) := by decide +kernel
theorem dX6_how_18 : decode cX6_how 18 = .ok (.iconst 0, 1) := by decide +kernel
theorem dX6_how_19 : decode cX6_how 19 = .ok (.ireturn, 1) := by decide +kernel
theorem dX6_how_20 : decode cX6_how 20 = .ok (.aload_n 0, 1) := by decide +kernel
theorem dX6_how_21 : decode cX6_how 21 = .ok (.getfield 15, 3) := by decide +kernel
theorem dX6_how_24 : decode cX6_how 24 = .ok (.iload_n 1, 1) := by decide +kernel
theorem dX6_how_25 : decode cX6_how 25 = .ok (.bipush 24, 2) := by decide +kernel
theorem dX6_how_27 : decode cX6_how 27 = .ok (.imul, 1) := by decide +kernel
theorem dX6_how_28 : decode cX6_how 28 = .ok (.iload_n 2, 1) := by decide +kernel
theorem dX6_how_29 : decode cX6_how 29 = .ok (.iadd, 1) := by decide +kernel
theorem dX6_how_30 : decode cX6_how 30 = .ok (.iaload, 1) := by decide +kernel
theorem dX6_how_31 : decode cX6_how 31 = .ok (.ireturn, 1) := by decide +kernel
theorem dX6_tell_0 : decode cX6_tell 0 = .ok (.aload_n 0, 1) := by decide +kernel
theorem dX6_tell_1 : decode cX6_tell 1 = .ok (.iload_n 1, 1) := by decide +kernel
theorem dX6_tell_2 : decode cX6_tell 2 = .ok (.invokevirtual 26, 3) := by decide +kernel
theorem dX6_tell_5 : decode cX6_tell 5 = .ok (.ifCond .eq 13, 3) := by decide +kernel
theorem dX6_tell_8 : decode cX6_tell 8 = .ok (.iload_n 2, 1) := by decide +kernel
theorem dX6_tell_9 : decode cX6_tell 9 = .ok (.ifCond .lt 9, 3) := by decide +kernel
theorem dX6_tell_12 : decode cX6_tell 12 = .ok (.iload_n 2, 1) := by decide +kernel
theorem dX6_tell_13 : decode cX6_tell 13 = .ok (.bipush 24, 2) := by decide +kernel
theorem dX6_tell_15 : decode cX6_tell 15 = .ok (.if_icmp .lt 4, 3) := by decide +kernel
theorem dX6_tell_18 : decode cX6_tell 18 = .ok (.return_, 1) := by decide +kernel
theorem dX6_tell_19 : decode cX6_tell 19 = .ok (.aload_n 0, 1) := by decide +kernel
theorem dX6_tell_20 : decode cX6_tell 20 = .ok (.getfield 15, 3) := by decide +kernel
theorem dX6_tell_23 : decode cX6_tell 23 = .ok (.iload_n 1, 1) := by decide +kernel
theorem dX6_tell_24 : decode cX6_tell 24 = .ok (.bipush 24, 2) := by decide +kernel
theorem dX6_tell_26 : decode cX6_tell 26 = .ok (.imul, 1) := by decide +kernel
theorem dX6_tell_27 : decode cX6_tell 27 = .ok (.iload_n 2, 1) := by decide +kernel
theorem dX6_tell_28 : decode cX6_tell 28 = .ok (.iadd, 1) := by decide +kernel
theorem dX6_tell_29 : decode cX6_tell 29 = .ok (.iload_n 3, 1) := by decide +kernel
theorem dX6_tell_30 : decode cX6_tell 30 = .ok (.iastore, 1) := by decide +kernel
theorem dX6_tell_31 : decode cX6_tell 31 = .ok (.return_, 1) := by decide +kernel
theorem dX6_isThere_0 : decode cX6_isThere 0 = .ok (.aload_n 0, 1) := by decide +kernel
theorem dX6_isThere_1 : decode cX6_isThere 1 = .ok (.iload_n 1, 1) := by decide +kernel
theorem dX6_isThere_2 : decode cX6_isThere 2 = .ok (.iload_n 2, 1) := by decide +kernel
theorem dX6_isThere_3 : decode cX6_isThere 3 = .ok (.invokevirtual 30, 3) := by decide +kernel
theorem dX6_isThere_6 : decode cX6_isThere 6 = .ok (.istore_n 3, 1) := by decide +kernel
theorem dX6_isThere_7 : decode cX6_isThere 7 = .ok (.iload_n 3, 1) := by decide +kernel
theorem dX6_isThere_8 : decode cX6_isThere 8 = .ok (.ifCond .eq 8, 3) := by decide +kernel
theorem dX6_isThere_11 : decode cX6_isThere 11 = .ok (.iload_n 3, 1) := by decide +kernel
theorem dX6_isThere_12 : decode cX6_isThere 12 = .ok (.iconst 1, 1) := by decide +kernel
theorem dX6_isThere_13 : decode cX6_isThere 13 = .ok (.if_icmp .ne 7, 3) := by decide +kernel
theorem dX6_isThere_16 : decode cX6_isThere 16 = .ok (.iconst 1, 1) := by decide +kernel
theorem dX6_isThere_17 : decode cX6_isThere 17 = .ok (.goto 4, 3) := by decide +kernel
theorem dX6_isThere_20 : decode cX6_isThere 20 = .ok (.iconst 0, 1) := by decide +kernel
theorem dX6_isThere_21 : decode cX6_isThere 21 = .ok (.ireturn, 1) := by decide +kernel
theorem dX7_init_0 : decode cX7_init 0 = .ok (.aload_n 0, 1) := by decide +kernel
theorem dX7_init_1 : decode cX7_init 1 = .ok (.invokespecial 3, 3) := by decide +kernel
theorem dX7_init_4 : decode cX7_init 4 = .ok (.aload_n 0, 1) := by decide +kernel
theorem dX7_init_5 : decode cX7_init 5 = .ok (.bipush 120, 2) := by decide +kernel
theorem dX7_init_7 : decode cX7_init 7 = .ok (.newarray .int, 2) := by decide +kernel
theorem dX7_init_9 : decode cX7_init 9 = .ok (.putfield 11, 3) := by decide +kernel
theorem dX7_init_12 : decode cX7_init 12 = .ok (.aload_n 0, 1) := by decide +kernel
theorem dX7_init_13 : decode cX7_init 13 = .ok (.iconst 0, 1) := by decide +kernel
theorem dX7_init_14 : decode cX7_init 14 = .ok (.putfield 15, 3) := by decide +kernel
theorem dX7_init_17 : decode cX7_init 17 = .ok (.aload_n 0, 1) := by decide +kernel
theorem dX7_init_18 : decode cX7_init 18 = .ok (.iconst 0, 1) := by decide +kernel
theorem dX7_init_19 : decode cX7_init 19 = .ok (.putfield 19, 3) := by decide +kernel
theorem dX7_init_22 : decode cX7_init 22 = .ok (.aload_n 0, 1) := by decide +kernel
theorem dX7_init_23 : decode cX7_init 23 = .ok (.iconst (-1), 1) := by decide +kernel
theorem dX7_init_24 : decode cX7_init 24 = .ok (.putfield 22, 3) := by decide +kernel
theorem dX7_init_27 : decode cX7_init 27 = .ok (.return_, 1) := by decide +kernel
theorem dX7_length_0 : decode cX7_length 0 = .ok (.aload_n 0, 1) := by decide +kernel
theorem dX7_length_1 : decode cX7_length 1 = .ok (.getfield 15, 3) := by decide +kernel
theorem dX7_length_4 : decode cX7_length 4 = .ok (.ireturn, 1) := by decide +kernel
theorem dX7_add_0 : decode cX7_add 0 = .ok (.aload_n 0, 1) := by decide +kernel
theorem dX7_add_1 : decode cX7_add 1 = .ok (.getfield 15, 3) := by decide +kernel
theorem dX7_add_4 : decode cX7_add 4 = .ok (.bipush 120, 2) := by decide +kernel
theorem dX7_add_6 : decode cX7_add 6 = .ok (.if_icmp .lt 6, 3) := by decide +kernel
theorem dX7_add_9 : decode cX7_add 9 = .ok (.bipush (-3), 2) := by decide +kernel
theorem dX7_add_11 : decode cX7_add 11 = .ok (.ireturn, 1) := by decide +kernel
theorem dX7_add_12 : decode cX7_add 12 = .ok (.aload_n 0, 1) := by decide +kernel
theorem dX7_add_13 : decode cX7_add 13 = .ok (.getfield 11, 3) := by decide +kernel
theorem dX7_add_16 : decode cX7_add 16 = .ok (.aload_n 0, 1) := by decide +kernel
theorem dX7_add_17 : decode cX7_add 17 = .ok (.getfield 15, 3) := by decide +kernel
theorem dX7_add_20 : decode cX7_add 20 = .ok (.iload_n 1, 1) := by decide +kernel
theorem dX7_add_21 : decode cX7_add 21 = .ok (.iastore, 1) := by decide +kernel
theorem dX7_add_22 : decode cX7_add 22 = .ok (.aload_n 0, 1) := by decide +kernel
theorem dX7_add_23 : decode cX7_add 23 = .ok (.dup, 1) := by decide +kernel
theorem dX7_add_24 : decode cX7_add 24 = .ok (.getfield 15, 3) := by decide +kernel
theorem dX7_add_27 : decode cX7_add 27 = .ok (.iconst 1, 1) := by decide +kernel
theorem dX7_add_28 : decode cX7_add 28 = .ok (.iadd, 1) := by decide +kernel
theorem dX7_add_29 : decode cX7_add 29 = .ok (.putfield 15, 3) := by decide +kernel
theorem dX7_add_32 : decode cX7_add 32 = .ok (.aload_n 0, 1) := by decide +kernel
theorem dX7_add_33 : decode cX7_add 33 = .ok (.getfield 15, 3) := by decide +kernel
theorem dX7_add_36 : decode cX7_add 36 = .ok (.ireturn, 1) := by decide +kernel
theorem dX7_clear_0 : decode cX7_clear 0 = .ok (.aload_n 0, 1) := by decide +kernel
theorem dX7_clear_1 : decode cX7_clear 1 = .ok (.iconst 0, 1) := by decide +kernel
theorem dX7_clear_2 : decode cX7_clear 2 = .ok (.putfield 15, 3) := by decide +kernel
theorem dX7_clear_5 : decode cX7_clear 5 = .ok (.return_, 1) := by decide +kernel
theorem dX7_readInto_0 : decode cX7_readInto 0 = .ok (.aload_n 1, 1) := by decide +kernel
theorem dX7_readInto_1 : decode cX7_readInto 1 = .ok (.invokevirtual 25, 3) := by decide +kernel
theorem dX7_readInto_4 : decode cX7_readInto 4 = .ok (.aload_n 0, 1) := by decide +kernel
theorem dX7_readInto_5 : decode cX7_readInto 5 = .ok (.iconst 0, 1) := by decide +kernel
theorem dX7_readInto_6 : decode cX7_readInto 6 = .ok (.putfield 19, 3) := by decide +kernel
theorem dX7_readInto_9 : decode cX7_readInto 9 = .ok (.aload_n 0, 1) := by decide +kernel
theorem dX7_readInto_10 : decode cX7_readInto 10 = .ok (.iconst (-1), 1) := by decide +kernel
theorem dX7_readInto_11 : decode cX7_readInto 11 = .ok (.putfield 22, 3) := by decide +kernel
theorem dX7_readInto_14 : decode cX7_readInto 14 = .ok (.aload_n 0, 1) := by decide +kernel
theorem dX7_readInto_15 : decode cX7_readInto 15 = .ok (.aload_n 1, 1) := by decide +kernel
theorem dX7_readInto_16 : decode cX7_readInto 16 = .ok (.invokevirtual 30, 3) := by decide +kernel
theorem dX7_readInto_19 : decode cX7_readInto 19 = .ok (.iconst 0, 1) := by decide +kernel
theorem dX7_readInto_20 : decode cX7_readInto 20 = .ok (.istore_n 2, 1) := by decide +kernel
theorem dX7_readInto_21 : decode cX7_readInto 21 = .ok (.iload_n 2, 1) := by decide +kernel
theorem dX7_readInto_22 : decode cX7_readInto 22 = .ok (.bipush 120, 2) := by decide +kernel
theorem dX7_readInto_24 : decode cX7_readInto 24 = .ok (.if_icmp .ge 40, 3) := by decide +kernel
theorem dX7_readInto_27 : decode cX7_readInto 27 = .ok (.aload_n 0, 1) := by decide +kernel
theorem dX7_readInto_28 : decode cX7_readInto 28 = .ok (.getfield 22, 3) := by decide +kernel
theorem dX7_readInto_31 : decode cX7_readInto 31 = .ok (.ifCond .ge 33, 3) := by decide +kernel
theorem dX7_readInto_34 : decode cX7_readInto 34 = .ok (.aload_n 0, 1) := by decide +kernel
theorem dX7_readInto_35 : decode cX7_readInto 35 = .ok (.invokevirtual 34, 3) := by decide +kernel
theorem dX7_readInto_38 : decode cX7_readInto 38 = .ok (.bipush 59, 2) := by decide +kernel
theorem dX7_readInto_40 : decode cX7_readInto 40 = .ok (.if_icmp .ne 24, 3) := by decide +kernel
theorem dX7_readInto_43 : decode cX7_readInto 43 = .ok (.aload_n 0, 1) := by decide +kernel
theorem dX7_readInto_44 : decode cX7_readInto 44 = .ok (.dup, 1) := by decide +kernel
theorem dX7_readInto_45 : decode cX7_readInto 45 = .ok (.getfield 19, 3) := by decide +kernel
theorem dX7_readInto_48 : decode cX7_readInto 48 = .ok (.iconst 1, 1) := by decide +kernel
theorem dX7_readInto_49 : decode cX7_readInto 49 = .ok (.iadd, 1) := by decide +kernel
theorem dX7_readInto_50 : decode cX7_readInto 50 = .ok (.putfield 19, 3) := by decide +kernel
theorem dX7_readInto_53 : decode cX7_readInto 53 = .ok (.aload_n 0, 1) := by decide +kernel
theorem dX7_readInto_54 : decode cX7_readInto 54 = .ok (.aload_n 1, 1) := by decide +kernel
theorem dX7_readInto_55 : decode cX7_readInto 55 = .ok (.invokevirtual 30, 3) := by decide +kernel
theorem dX7_readInto_58 : decode cX7_readInto 58 = .ok (.iinc 2 1, 3) := by decide +kernel
theorem dX7_readInto_61 : decode cX7_readInto 61 = .ok (.goto (-40), 3) := by decide +kernel
theorem dX7_readInto_64 : decode cX7_readInto 64 = .ok (.aload_n 0, 1) := by decide +kernel
theorem dX7_readInto_65 : decode cX7_readInto 65 = .ok (.getfield 19, 3) := by decide +kernel
theorem dX7_readInto_68 : decode cX7_readInto 68 = .ok (.aload_n 0, 1) := by decide +kernel
theorem dX7_readInto_69 : decode cX7_readInto 69 = .ok (.getfield 15, 3) := by decide +kernel
theorem dX7_readInto_72 : decode cX7_readInto 72 = .ok (.if_icmp .ge 7, 3) := by decide +kernel
theorem dX7_readInto_75 : decode cX7_readInto 75 = .ok (.aload_n 0, 1) := by decide +kernel
theorem dX7_readInto_76 : decode cX7_readInto 76 = .ok (.invokevirtual 38, 3) := by decide +kernel
theorem dX7_readInto_79 : decode cX7_readInto 79 = .ok (.aload_n 0, 1) := by decide +kernel
theorem dX7_readInto_80 : decode cX7_readInto 80 = .ok (.getfield 22, 3) := by decide +kernel
theorem dX7_readInto_83 : decode cX7_readInto 83 = .ok (.ireturn, 1) := by decide +kernel
theorem dX7_readLine_0 : decode cX7_readLine 0 = .ok (.aload_n 0, 1) := by decide +kernel
theorem dX7_readLine_1 : decode cX7_readLine 1 = .ok (.aload_n 1, 1) := by decide +kernel
theorem dX7_readLine_2 : decode cX7_readLine 2 = .ok (.iconst 0, 1) := by decide +kernel
theorem dX7_readLine_3 : decode cX7_readLine 3 = .ok (.iconst 0, 1) := by decide +kernel
theorem dX7_readLine_4 : decode cX7_readLine 4 = .ok (.invokevirtual 41, 3) := by decide +kernel
theorem dX7_readLine_7 : decode cX7_readLine 7 = .ok (.aload_n 0, 1) := by decide +kernel
theorem dX7_readLine_8 : decode cX7_readLine 8 = .ok (.invokevirtual 34, 3) := by decide +kernel
theorem dX7_readLine_11 : decode cX7_readLine 11 = .ok (.bipush 63, 2) := by decide +kernel
theorem dX7_readLine_13 : decode cX7_readLine 13 = .ok (.if_icmp .eq 11, 3) := by decide +kernel
theorem dX7_readLine_16 : decode cX7_readLine 16 = .ok (.aload_n 1, 1) := by decide +kernel
theorem dX7_readLine_17 : decode cX7_readLine 17 = .ok (.bipush 59, 2) := by decide +kernel
theorem dX7_readLine_19 : decode cX7_readLine 19 = .ok (.iconst 0, 1) := by decide +kernel
theorem dX7_readLine_20 : decode cX7_readLine 20 = .ok (.invokevirtual 45, 3) := by decide +kernel
theorem dX7_readLine_23 : decode cX7_readLine 23 = .ok (.return_, 1) := by decide +kernel
theorem dX7_readLine_24 : decode cX7_readLine 24 = .ok (.aload_n 1, 1) := by decide +kernel
theorem dX7_readLine_25 : decode cX7_readLine 25 = .ok (.invokevirtual 49, 3) := by decide +kernel
theorem dX7_readLine_28 : decode cX7_readLine 28 = .ok (.istore_n 2, 1) := by decide +kernel
theorem dX7_readLine_29 : decode cX7_readLine 29 = .ok (.aload_n 1, 1) := by decide +kernel
theorem dX7_readLine_30 : decode cX7_readLine 30 = .ok (.bipush 63, 2) := by decide +kernel
theorem dX7_readLine_32 : decode cX7_readLine 32 = .ok (.iconst 0, 1) := by decide +kernel
theorem dX7_readLine_33 : decode cX7_readLine 33 = .ok (.invokevirtual 45, 3) := by decide +kernel
theorem dX7_readLine_36 : decode cX7_readLine 36 = .ok (.aload_n 0, 1) := by decide +kernel
theorem dX7_readLine_37 : decode cX7_readLine 37 = .ok (.dup, 1) := by decide +kernel
theorem dX7_readLine_38 : decode cX7_readLine 38 = .ok (.getfield 19, 3) := by decide +kernel
theorem dX7_readLine_41 : decode cX7_readLine 41 = .ok (.iconst 1, 1) := by decide +kernel
theorem dX7_readLine_42 : decode cX7_readLine 42 = .ok (.iadd, 1) := by decide +kernel
theorem dX7_readLine_43 : decode cX7_readLine 43 = .ok (.putfield 19, 3) := by decide +kernel
theorem dX7_readLine_46 : decode cX7_readLine 46 = .ok (.aload_n 0, 1) := by decide +kernel
theorem dX7_readLine_47 : decode cX7_readLine 47 = .ok (.aload_n 1, 1) := by decide +kernel
theorem dX7_readLine_48 : decode cX7_readLine 48 = .ok (.iconst 0, 1) := by decide +kernel
theorem dX7_readLine_49 : decode cX7_readLine 49 = .ok (.iconst 0, 1) := by decide +kernel
theorem dX7_readLine_50 : decode cX7_readLine 50 = .ok (.invokevirtual 41, 3) := by decide +kernel
theorem dX7_readLine_53 : decode cX7_readLine 53 = .ok (.aload_n 1, 1) := by decide +kernel
theorem dX7_readLine_54 : decode cX7_readLine 54 = .ok (.bipush 59, 2) := by decide +kernel
theorem dX7_readLine_56 : decode cX7_readLine 56 = .ok (.iconst 0, 1) := by decide +kernel
theorem dX7_readLine_57 : decode cX7_readLine 57 = .ok (.invokevirtual 45, 3) := by decide +kernel
theorem dX7_readLine_60 : decode cX7_readLine 60 = .ok (.aload_n 1, 1) := by decide +kernel
theorem dX7_readLine_61 : decode cX7_readLine 61 = .ok (.iload_n 2, 1) := by decide +kernel
theorem dX7_readLine_62 : decode cX7_readLine 62 = .ok (.invokevirtual 52, 3) := by decide +kernel
theorem dX7_readLine_65 : decode cX7_readLine 65 = .ok (.return_, 1) := by decide +kernel
theorem dX7_readPart_0 : decode cX7_readPart 0 = .ok (.iload_n 2, 1) := by decide +kernel
theorem dX7_readPart_1 : decode cX7_readPart 1 = .ok (.iconst 4, 1) := by decide +kernel
theorem dX7_readPart_2 : decode cX7_readPart 2 = .ok (.if_icmp .le 10, 3) := by decide +kernel
theorem dX7_readPart_5 : decode cX7_readPart 5 = .ok (.aload_n 0, 1) := by decide +kernel
theorem dX7_readPart_6 : decode cX7_readPart 6 = .ok (.aload_n 1, 1) := by decide +kernel
theorem dX7_readPart_7 : decode cX7_readPart 7 = .ok (.iload_n 3, 1) := by decide +kernel
theorem dX7_readPart_8 : decode cX7_readPart 8 = .ok (.invokevirtual 56, 3) := by decide +kernel
theorem dX7_readPart_11 : decode cX7_readPart 11 = .ok (.return_, 1) := by decide +kernel
theorem dX7_readPart_12 : decode cX7_readPart 12 = .ok (.aload_n 0, 1) := by decide +kernel
theorem dX7_readPart_13 : decode cX7_readPart 13 = .ok (.aload_n 1, 1) := by decide +kernel
theorem dX7_readPart_14 : decode cX7_readPart 14 = .ok (.iload_n 2, 1) := by decide +kernel
theorem dX7_readPart_15 : decode cX7_readPart 15 = .ok (.iconst 1, 1) := by decide +kernel
theorem dX7_readPart_16 : decode cX7_readPart 16 = .ok (.iadd, 1) := by decide +kernel
theorem dX7_readPart_17 : decode cX7_readPart 17 = .ok (.iload_n 3, 1) := by decide +kernel
theorem dX7_readPart_18 : decode cX7_readPart 18 = .ok (.invokevirtual 41, 3) := by decide +kernel
theorem dX7_readPart_21 : decode cX7_readPart 21 = .ok (.iload_n 2, 1) := by decide +kernel
theorem dX7_readPart_22 : decode cX7_readPart 22 = .ok (.iconst 2, 1) := by decide +kernel
theorem dX7_readPart_23 : decode cX7_readPart 23 = .ok (.if_icmp .ne 7, 3) := by decide +kernel
theorem dX7_readPart_26 : decode cX7_readPart 26 = .ok (.iconst 1, 1) := by decide +kernel
theorem dX7_readPart_27 : decode cX7_readPart 27 = .ok (.goto 5, 3) := by decide +kernel
theorem dX7_readPart_30 : decode cX7_readPart 30 = .ok (.bipush 120, 2) := by decide +kernel
theorem dX7_readPart_32 : decode cX7_readPart 32 = .ok (.istore 4, 2) := by decide +kernel
theorem dX7_readPart_34 : decode cX7_readPart 34 = .ok (.iconst 0, 1) := by decide +kernel
theorem dX7_readPart_35 : decode cX7_readPart 35 = .ok (.istore 5, 2) := by decide +kernel
theorem dX7_readPart_37 : decode cX7_readPart 37 = .ok (.iload 5, 2) := by decide +kernel
theorem dX7_readPart_39 : decode cX7_readPart 39 = .ok (.iload 4, 2) := by decide +kernel
theorem dX7_readPart_41 : decode cX7_readPart 41 = .ok (.if_icmp .ge 59, 3) := by decide +kernel
theorem dX7_readPart_44 : decode cX7_readPart 44 = .ok (.aload_n 0, 1) := by decide +kernel
theorem dX7_readPart_45 : decode cX7_readPart 45 = .ok (.getfield 22, 3) := by decide +kernel
theorem dX7_readPart_48 : decode cX7_readPart 48 = .ok (.ifCond .ge 52, 3) := by decide +kernel
theorem dX7_readPart_51 : decode cX7_readPart 51 = .ok (.aload_n 0, 1) := by decide +kernel
theorem dX7_readPart_52 : decode cX7_readPart 52 = .ok (.invokevirtual 34, 3) := by decide +kernel
theorem dX7_readPart_55 : decode cX7_readPart 55 = .ok (.invokestatic 60, 3) := by decide +kernel
theorem dX7_readPart_58 : decode cX7_readPart 58 = .ok (.iload_n 2, 1) := by decide +kernel
theorem dX7_readPart_59 : decode cX7_readPart 59 = .ok (.if_icmp .ne 41, 3) := by decide +kernel
theorem dX7_readPart_62 : decode cX7_readPart 62 = .ok (.aload_n 0, 1) := by decide +kernel
theorem dX7_readPart_63 : decode cX7_readPart 63 = .ok (.invokevirtual 34, 3) := by decide +kernel
theorem dX7_readPart_66 : decode cX7_readPart 66 = .ok (.istore 6, 2) := by decide +kernel
theorem dX7_readPart_68 : decode cX7_readPart 68 = .ok (.aload_n 0, 1) := by decide +kernel
theorem dX7_readPart_69 : decode cX7_readPart 69 = .ok (.dup, 1) := by decide +kernel
theorem dX7_readPart_70 : decode cX7_readPart 70 = .ok (.getfield 19, 3) := by decide +kernel
theorem dX7_readPart_73 : decode cX7_readPart 73 = .ok (.iconst 1, 1) := by decide +kernel
theorem dX7_readPart_74 : decode cX7_readPart 74 = .ok (.iadd, 1) := by decide +kernel
theorem dX7_readPart_75 : decode cX7_readPart 75 = .ok (.putfield 19, 3) := by decide +kernel
theorem dX7_readPart_78 : decode cX7_readPart 78 = .ok (.aload_n 0, 1) := by decide +kernel
theorem dX7_readPart_79 : decode cX7_readPart 79 = .ok (.aload_n 1, 1) := by decide +kernel
theorem dX7_readPart_80 : decode cX7_readPart 80 = .ok (.iload_n 2, 1) := by decide +kernel
theorem dX7_readPart_81 : decode cX7_readPart 81 = .ok (.iconst 1, 1) := by decide +kernel
theorem dX7_readPart_82 : decode cX7_readPart 82 = .ok (.iadd, 1) := by decide +kernel
theorem dX7_readPart_83 : decode cX7_readPart 83 = .ok (.iload_n 3, 1) := by decide +kernel
theorem dX7_readPart_84 : decode cX7_readPart 84 = .ok (.invokevirtual 41, 3) := by decide +kernel
theorem dX7_readPart_87 : decode cX7_readPart 87 = .ok (.aload_n 1, 1) := by decide +kernel
theorem dX7_readPart_88 : decode cX7_readPart 88 = .ok (.iload 6, 2) := by decide +kernel
theorem dX7_readPart_90 : decode cX7_readPart 90 = .ok (.iconst 0, 1) := by decide +kernel
theorem dX7_readPart_91 : decode cX7_readPart 91 = .ok (.invokevirtual 45, 3) := by decide +kernel
theorem dX7_readPart_94 : decode cX7_readPart 94 = .ok (.iinc 5 1, 3) := by decide +kernel
theorem dX7_readPart_97 : decode cX7_readPart 97 = .ok (.goto (-60), 3) := by decide +kernel
theorem dX7_readPart_100 : decode cX7_readPart 100 = .ok (.return_, 1) := by decide +kernel
theorem dX7_readOne_0 : decode cX7_readOne 0 = .ok (.aload_n 0, 1) := by decide +kernel
theorem dX7_readOne_1 : decode cX7_readOne 1 = .ok (.invokevirtual 34, 3) := by decide +kernel
theorem dX7_readOne_4 : decode cX7_readOne 4 = .ok (.istore_n 3, 1) := by decide +kernel
theorem dX7_readOne_5 : decode cX7_readOne 5 = .ok (.iload_n 3, 1) := by decide +kernel
theorem dX7_readOne_6 : decode cX7_readOne 6 = .ok (.bipush 40, 2) := by decide +kernel
theorem dX7_readOne_8 : decode cX7_readOne 8 = .ok (.if_icmp .eq 15, 3) := by decide +kernel
theorem dX7_readOne_11 : decode cX7_readOne 11 = .ok (.iload_n 3, 1) := by decide +kernel
theorem dX7_readOne_12 : decode cX7_readOne 12 = .ok (.bipush 33, 2) := by decide +kernel
theorem dX7_readOne_14 : decode cX7_readOne 14 = .ok (.if_icmp .eq 9, 3) := by decide +kernel
theorem dX7_readOne_17 : decode cX7_readOne 17 = .ok (.iload_n 3, 1) := by decide +kernel
theorem dX7_readOne_18 : decode cX7_readOne 18 = .ok (.bipush 45, 2) := by decide +kernel
theorem dX7_readOne_20 : decode cX7_readOne 20 = .ok (.if_icmp .ne 7, 3) := by decide +kernel
theorem dX7_readOne_23 : decode cX7_readOne 23 = .ok (.iconst 1, 1) := by decide +kernel
theorem dX7_readOne_24 : decode cX7_readOne 24 = .ok (.goto 4, 3) := by decide +kernel
theorem dX7_readOne_27 : decode cX7_readOne 27 = .ok (.iconst 0, 1) := by decide +kernel
theorem dX7_readOne_28 : decode cX7_readOne 28 = .ok (.istore 4, 2) := by decide +kernel
theorem dX7_readOne_30 : decode cX7_readOne 30 = .ok (.aload_n 0, 1) := by decide +kernel
theorem dX7_readOne_31 : decode cX7_readOne 31 = .ok (.getfield 22, 3) := by decide +kernel
theorem dX7_readOne_34 : decode cX7_readOne 34 = .ok (.ifCond .lt 4, 3) := by decide +kernel
theorem dX7_readOne_37 : decode cX7_readOne 37 = .ok (.return_, 1) := by decide +kernel
theorem dX7_readOne_38 : decode cX7_readOne 38 = .ok (.iload_n 3, 1) := by decide +kernel
theorem dX7_readOne_39 : decode cX7_readOne 39 = .ok (.bipush 48, 2) := by decide +kernel
theorem dX7_readOne_41 : decode cX7_readOne 41 = .ok (.isub, 1) := by decide +kernel
theorem dX7_readOne_42 : decode cX7_readOne 42 = .ok (.i2l, 1) := by decide +kernel
theorem dX7_readOne_43 : decode cX7_readOne 43 = .ok (.invokestatic 64, 3) := by decide +kernel
theorem dX7_readOne_46 : decode cX7_readOne 46 = .ok (.ifCond .eq 11, 3) := by decide +kernel
theorem dX7_readOne_49 : decode cX7_readOne 49 = .ok (.aload_n 0, 1) := by decide +kernel
theorem dX7_readOne_50 : decode cX7_readOne 50 = .ok (.aload_n 1, 1) := by decide +kernel
theorem dX7_readOne_51 : decode cX7_readOne 51 = .ok (.invokevirtual 68, 3) := by decide +kernel
theorem dX7_readOne_54 : decode cX7_readOne 54 = .ok (.goto 70, 3) := by decide +kernel
theorem dX7_readOne_57 : decode cX7_readOne 57 = .ok (.iload_n 3, 1) := by decide +kernel
theorem dX7_readOne_58 : decode cX7_readOne 58 = .ok (.invokestatic 71, 3) := by decide +kernel
theorem dX7_readOne_61 : decode cX7_readOne 61 = .ok (.ifCond .lt 26, 3) := by decide +kernel
theorem dX7_readOne_64 : decode cX7_readOne 64 = .ok (.aload_n 1, 1) := by decide +kernel
theorem dX7_readOne_65 : decode cX7_readOne 65 = .ok (.bipush 110, 2) := by decide +kernel
theorem dX7_readOne_67 : decode cX7_readOne 67 = .ok (.iload_n 3, 1) := by decide +kernel
theorem dX7_readOne_68 : decode cX7_readOne 68 = .ok (.invokestatic 71, 3) := by decide +kernel
theorem dX7_readOne_71 : decode cX7_readOne 71 = .ok (.invokevirtual 45, 3) := by decide +kernel
theorem dX7_readOne_74 : decode cX7_readOne 74 = .ok (.aload_n 0, 1) := by decide +kernel
theorem dX7_readOne_75 : decode cX7_readOne 75 = .ok (.dup, 1) := by decide +kernel
theorem dX7_readOne_76 : decode cX7_readOne 76 = .ok (.getfield 19, 3) := by decide +kernel
theorem dX7_readOne_79 : decode cX7_readOne 79 = .ok (.iconst 1, 1) := by decide +kernel
theorem dX7_readOne_80 : decode cX7_readOne 80 = .ok (.iadd, 1) := by decide +kernel
theorem dX7_readOne_81 : decode cX7_readOne 81 = .ok (.putfield 19, 3) := by decide +kernel
theorem dX7_readOne_84 : decode cX7_readOne 84 = .ok (.goto 40, 3) := by decide +kernel
theorem dX7_readOne_87 : decode cX7_readOne 87 = .ok (.iload 4, 2) := by decide +kernel
theorem dX7_readOne_89 : decode cX7_readOne 89 = .ok (.ifCond .eq 31, 3) := by decide +kernel
theorem dX7_readOne_92 : decode cX7_readOne 92 = .ok (.iload_n 2, 1) := by decide +kernel
theorem dX7_readOne_93 : decode cX7_readOne 93 = .ok (.bipush 6, 2) := by decide +kernel
theorem dX7_readOne_95 : decode cX7_readOne 95 = .ok (.if_icmp .ge 25, 3) := by decide +kernel
theorem dX7_readOne_98 : decode cX7_readOne 98 = .ok (.aload_n 0, 1) := by decide +kernel
theorem dX7_readOne_99 : decode cX7_readOne 99 = .ok (.dup, 1) := by decide +kernel
theorem dX7_readOne_100 : decode cX7_readOne 100 = .ok (.getfield 19, 3) := by decide +kernel
theorem dX7_readOne_103 : decode cX7_readOne 103 = .ok (.iconst 1, 1) := by decide +kernel
theorem dX7_readOne_104 : decode cX7_readOne 104 = .ok (.iadd, 1) := by decide +kernel
theorem dX7_readOne_105 : decode cX7_readOne 105 = .ok (.putfield 19, 3) := by decide +kernel
theorem dX7_readOne_108 : decode cX7_readOne 108 = .ok (.aload_n 0, 1) := by decide +kernel
theorem dX7_readOne_109 : decode cX7_readOne 109 = .ok (.aload_n 1, 1) := by decide +kernel
theorem dX7_readOne_110 : decode cX7_readOne 110 = .ok (.iload_n 3, 1) := by decide +kernel
theorem dX7_readOne_111 : decode cX7_readOne 111 = .ok (.iload_n 2, 1) := by decide +kernel
theorem dX7_readOne_112 : decode cX7_readOne 112 = .ok (.iconst 1, 1) := by decide +kernel
theorem dX7_readOne_113 : decode cX7_readOne 113 = .ok (.iadd, 1) := by decide +kernel
theorem dX7_readOne_114 : decode cX7_readOne 114 = .ok (.invokevirtual 74, 3) := by decide +kernel
theorem dX7_readOne_117 : decode cX7_readOne 117 = .ok (.goto 7, 3) := by decide +kernel
theorem dX7_readOne_120 : decode cX7_readOne 120 = .ok (.aload_n 0, 1) := by decide +kernel
theorem dX7_readOne_121 : decode cX7_readOne 121 = .ok (.invokevirtual 38, 3) := by decide +kernel
theorem dX7_readOne_124 : decode cX7_readOne 124 = .ok (.return_, 1) := by decide +kernel
theorem dX7_readOpened_0 : decode cX7_readOpened 0 = .ok (.iload_n 2, 1) := by decide +kernel
theorem dX7_readOpened_1 : decode cX7_readOpened 1 = .ok (.bipush 40, 2) := by decide +kernel
theorem dX7_readOpened_3 : decode cX7_readOpened 3 = .ok (.if_icmp .eq 28, 3) := by decide +kernel
theorem dX7_readOpened_6 : decode cX7_readOpened 6 = .ok (.aload_n 0, 1) := by decide +kernel
theorem dX7_readOpened_7 : decode cX7_readOpened 7 = .ok (.aload_n 1, 1) := by decide +kernel
theorem dX7_readOpened_8 : decode cX7_readOpened 8 = .ok (.iload_n 3, 1) := by decide +kernel
theorem dX7_readOpened_9 : decode cX7_readOpened 9 = .ok (.invokevirtual 56, 3) := by decide +kernel
theorem dX7_readOpened_12 : decode cX7_readOpened 12 = .ok (.aload_n 1, 1) := by decide +kernel
theorem dX7_readOpened_13 : decode cX7_readOpened 13 = .ok (.iload_n 2, 1) := by decide +kernel
theorem dX7_readOpened_14 : decode cX7_readOpened 14 = .ok (.bipush 33, 2) := by decide +kernel
theorem dX7_readOpened_16 : decode cX7_readOpened 16 = .ok (.if_icmp .ne 8, 3) := by decide +kernel
theorem dX7_readOpened_19 : decode cX7_readOpened 19 = .ok (.bipush 33, 2) := by decide +kernel
theorem dX7_readOpened_21 : decode cX7_readOpened 21 = .ok (.goto 5, 3) := by decide +kernel
theorem dX7_readOpened_24 : decode cX7_readOpened 24 = .ok (.bipush 126, 2) := by decide +kernel
theorem dX7_readOpened_26 : decode cX7_readOpened 26 = .ok (.iconst 0, 1) := by decide +kernel
theorem dX7_readOpened_27 : decode cX7_readOpened 27 = .ok (.invokevirtual 45, 3) := by decide +kernel
theorem dX7_readOpened_30 : decode cX7_readOpened 30 = .ok (.return_, 1) := by decide +kernel
theorem dX7_readOpened_31 : decode cX7_readOpened 31 = .ok (.aload_n 0, 1) := by decide +kernel
theorem dX7_readOpened_32 : decode cX7_readOpened 32 = .ok (.aload_n 1, 1) := by decide +kernel
theorem dX7_readOpened_33 : decode cX7_readOpened 33 = .ok (.iconst 0, 1) := by decide +kernel
theorem dX7_readOpened_34 : decode cX7_readOpened 34 = .ok (.iload_n 3, 1) := by decide +kernel
theorem dX7_readOpened_35 : decode cX7_readOpened 35 = .ok (.invokevirtual 41, 3) := by decide +kernel
theorem dX7_readOpened_38 : decode cX7_readOpened 38 = .ok (.aload_n 0, 1) := by decide +kernel
theorem dX7_readOpened_39 : decode cX7_readOpened 39 = .ok (.invokevirtual 34, 3) := by decide +kernel
theorem dX7_readOpened_42 : decode cX7_readOpened 42 = .ok (.bipush 41, 2) := by decide +kernel
theorem dX7_readOpened_44 : decode cX7_readOpened 44 = .ok (.if_icmp .ne 16, 3) := by decide +kernel
theorem dX7_readOpened_47 : decode cX7_readOpened 47 = .ok (.aload_n 0, 1) := by decide +kernel
theorem dX7_readOpened_48 : decode cX7_readOpened 48 = .ok (.dup, 1) := by decide +kernel
theorem dX7_readOpened_49 : decode cX7_readOpened 49 = .ok (.getfield 19, 3) := by decide +kernel
theorem dX7_readOpened_52 : decode cX7_readOpened 52 = .ok (.iconst 1, 1) := by decide +kernel
theorem dX7_readOpened_53 : decode cX7_readOpened 53 = .ok (.iadd, 1) := by decide +kernel
theorem dX7_readOpened_54 : decode cX7_readOpened 54 = .ok (.putfield 19, 3) := by decide +kernel
theorem dX7_readOpened_57 : decode cX7_readOpened 57 = .ok (.goto 7, 3) := by decide +kernel
theorem dX7_readOpened_60 : decode cX7_readOpened 60 = .ok (.aload_n 0, 1) := by decide +kernel
theorem dX7_readOpened_61 : decode cX7_readOpened 61 = .ok (.invokevirtual 38, 3) := by decide +kernel
theorem dX7_readOpened_64 : decode cX7_readOpened 64 = .ok (.return_, 1) := by decide +kernel
theorem dX7_readNumber_0 : decode cX7_readNumber 0 = .ok (.iconst 0, 1) := by decide +kernel
theorem dX7_readNumber_1 : decode cX7_readNumber 1 = .ok (.istore_n 2, 1) := by decide +kernel
theorem dX7_readNumber_2 : decode cX7_readNumber 2 = .ok (.iconst 0, 1) := by decide +kernel
theorem dX7_readNumber_3 : decode cX7_readNumber 3 = .ok (.istore_n 3, 1) := by decide +kernel
theorem dX7_readNumber_4 : decode cX7_readNumber 4 = .ok (.iload_n 3, 1) := by decide +kernel
theorem dX7_readNumber_5 : decode cX7_readNumber 5 = .ok (.iconst 4, 1) := by decide +kernel
theorem dX7_readNumber_6 : decode cX7_readNumber 6 = .ok (.if_icmp .ge 46, 3) := by decide +kernel
theorem dX7_readNumber_9 : decode cX7_readNumber 9 = .ok (.aload_n 0, 1) := by decide +kernel
theorem dX7_readNumber_10 : decode cX7_readNumber 10 = .ok (.invokevirtual 34, 3) := by decide +kernel
theorem dX7_readNumber_13 : decode cX7_readNumber 13 = .ok (.bipush 48, 2) := by decide +kernel
theorem dX7_readNumber_15 : decode cX7_readNumber 15 = .ok (.isub, 1) := by decide +kernel
theorem dX7_readNumber_16 : decode cX7_readNumber 16 = .ok (.i2l, 1) := by decide +kernel
theorem dX7_readNumber_17 : decode cX7_readNumber 17 = .ok (.invokestatic 64, 3) := by decide +kernel
theorem dX7_readNumber_20 : decode cX7_readNumber 20 = .ok (.ifCond .eq 32, 3) := by decide +kernel
theorem dX7_readNumber_23 : decode cX7_readNumber 23 = .ok (.bipush 10, 2) := by decide +kernel
theorem dX7_readNumber_25 : decode cX7_readNumber 25 = .ok (.iload_n 2, 1) := by decide +kernel
theorem dX7_readNumber_26 : decode cX7_readNumber 26 = .ok (.imul, 1) := by decide +kernel
theorem dX7_readNumber_27 : decode cX7_readNumber 27 = .ok (.aload_n 0, 1) := by decide +kernel
theorem dX7_readNumber_28 : decode cX7_readNumber 28 = .ok (.invokevirtual 34, 3) := by decide +kernel
theorem dX7_readNumber_31 : decode cX7_readNumber 31 = .ok (.iadd, 1) := by decide +kernel
theorem dX7_readNumber_32 : decode cX7_readNumber 32 = .ok (.bipush 48, 2) := by decide +kernel
theorem dX7_readNumber_34 : decode cX7_readNumber 34 = .ok (.isub, 1) := by decide +kernel
theorem dX7_readNumber_35 : decode cX7_readNumber 35 = .ok (.istore_n 2, 1) := by decide +kernel
theorem dX7_readNumber_36 : decode cX7_readNumber 36 = .ok (.aload_n 0, 1) := by decide +kernel
theorem dX7_readNumber_37 : decode cX7_readNumber 37 = .ok (.dup, 1) := by decide +kernel
theorem dX7_readNumber_38 : decode cX7_readNumber 38 = .ok (.getfield 19, 3) := by decide +kernel
theorem dX7_readNumber_41 : decode cX7_readNumber 41 = .ok (.iconst 1, 1) := by decide +kernel
theorem dX7_readNumber_42 : decode cX7_readNumber 42 = .ok (.iadd, 1) := by decide +kernel
theorem dX7_readNumber_43 : decode cX7_readNumber 43 = .ok (.putfield 19, 3) := by decide +kernel
theorem dX7_readNumber_46 : decode cX7_readNumber 46 = .ok (.iinc 3 1, 3) := by decide +kernel
theorem dX7_readNumber_49 : decode cX7_readNumber 49 = .ok (.goto (-45), 3) := by decide +kernel
theorem dX7_readNumber_52 : decode cX7_readNumber 52 = .ok (.aload_n 1, 1) := by decide +kernel
theorem dX7_readNumber_53 : decode cX7_readNumber 53 = .ok (.bipush 35, 2) := by decide +kernel
theorem dX7_readNumber_55 : decode cX7_readNumber 55 = .ok (.iload_n 2, 1) := by decide +kernel
theorem dX7_readNumber_56 : decode cX7_readNumber 56 = .ok (.invokevirtual 45, 3) := by decide +kernel
theorem dX7_readNumber_59 : decode cX7_readNumber 59 = .ok (.return_, 1) := by decide +kernel
theorem dX7_next_0 : decode cX7_next 0 = .ok (.aload_n 0, 1) := by decide +kernel
theorem dX7_next_1 : decode cX7_next 1 = .ok (.getfield 19, 3) := by decide +kernel
theorem dX7_next_4 : decode cX7_next 4 = .ok (.aload_n 0, 1) := by decide +kernel
theorem dX7_next_5 : decode cX7_next 5 = .ok (.getfield 15, 3) := by decide +kernel
theorem dX7_next_8 : decode cX7_next 8 = .ok (.if_icmp .ge 15, 3) := by decide +kernel
theorem dX7_next_11 : decode cX7_next 11 = .ok (.aload_n 0, 1) := by decide +kernel
theorem dX7_next_12 : decode cX7_next 12 = .ok (.getfield 11, 3) := by decide +kernel
theorem dX7_next_15 : decode cX7_next 15 = .ok (.aload_n 0, 1) := by decide +kernel
theorem dX7_next_16 : decode cX7_next 16 = .ok (.getfield 19, 3) := by decide +kernel
theorem dX7_next_19 : decode cX7_next 19 = .ok (.iaload, 1) := by decide +kernel
theorem dX7_next_20 : decode cX7_next 20 = .ok (.goto 4, 3) := by decide +kernel
theorem dX7_next_23 : decode cX7_next 23 = .ok (.iconst (-1), 1) := by decide +kernel
theorem dX7_next_24 : decode cX7_next 24 = .ok (.ireturn, 1) := by decide +kernel
theorem dX7_fail_0 : decode cX7_fail 0 = .ok (.aload_n 0, 1) := by decide +kernel
theorem dX7_fail_1 : decode cX7_fail 1 = .ok (.getfield 22, 3) := by decide +kernel
theorem dX7_fail_4 : decode cX7_fail 4 = .ok (.ifCond .ge 11, 3) := by decide +kernel
theorem dX7_fail_7 : decode cX7_fail 7 = .ok (.aload_n 0, 1) := by decide +kernel
theorem dX7_fail_8 : decode cX7_fail 8 = .ok (.aload_n 0, 1) := by decide +kernel
theorem dX7_fail_9 : decode cX7_fail 9 = .ok (.getfield 19, 3) := by decide +kernel
theorem dX7_fail_12 : decode cX7_fail 12 = .ok (.putfield 22, 3) := by decide +kernel
theorem dX7_fail_15 : decode cX7_fail 15 = .ok (.return_, 1) := by decide +kernel
theorem dX7_tightnessOf_0 : decode cX7_tightnessOf 0 = .ok (.iload_n 0, 1) := by decide +kernel
theorem dX7_tightnessOf_1 : decode cX7_tightnessOf 1 = .ok (.lookupswitch 101 #[(37, 99), (38, 93), (42, 99), (43, 97), (45, 97), (47, 99), (60, 95), (61, 95), (62, 95), (124, 91)], 91) := by decide +kernel
theorem dX7_tightnessOf_92 : decode cX7_tightnessOf 92 = .ok (.iconst 0, 1) := by decide +kernel
theorem dX7_tightnessOf_93 : decode cX7_tightnessOf 93 = .ok (.ireturn, 1) := by decide +kernel
theorem dX7_tightnessOf_94 : decode cX7_tightnessOf 94 = .ok (.iconst 1, 1) := by decide +kernel
theorem dX7_tightnessOf_95 : decode cX7_tightnessOf 95 = .ok (.ireturn, 1) := by decide +kernel
theorem dX7_tightnessOf_96 : decode cX7_tightnessOf 96 = .ok (.iconst 2, 1) := by decide +kernel
theorem dX7_tightnessOf_97 : decode cX7_tightnessOf 97 = .ok (.ireturn, 1) := by decide +kernel
theorem dX7_tightnessOf_98 : decode cX7_tightnessOf 98 = .ok (.iconst 3, 1) := by decide +kernel
theorem dX7_tightnessOf_99 : decode cX7_tightnessOf 99 = .ok (.ireturn, 1) := by decide +kernel
theorem dX7_tightnessOf_100 : decode cX7_tightnessOf 100 = .ok (.iconst 4, 1) := by decide +kernel
theorem dX7_tightnessOf_101 : decode cX7_tightnessOf 101 = .ok (.ireturn, 1) := by decide +kernel
theorem dX7_tightnessOf_102 : decode cX7_tightnessOf 102 = .ok (.iconst (-1), 1) := by decide +kernel
theorem dX7_tightnessOf_103 : decode cX7_tightnessOf 103 = .ok (.ireturn, 1) := by decide +kernel
theorem dX7_nameOf_0 : decode cX7_nameOf 0 = .ok (.iload_n 0, 1) := by decide +kernel
theorem dX7_nameOf_1 : decode cX7_nameOf 1 = .ok (.tableswitch 132 99 122 #[126, 132, 132, 132, 132, 129, 117, 119, 132, 132, 123, 132, 132, 113, 132, 115, 111, 132, 132, 132, 132, 132, 132, 121], 111) := by decide +kernel
theorem dX7_nameOf_112 : decode cX7_nameOf 112 = .ok (.iconst 0, 1) := by decide +kernel
theorem dX7_nameOf_113 : decode cX7_nameOf 113 = .ok (.ireturn, 1) := by decide +kernel
theorem dX7_nameOf_114 : decode cX7_nameOf 114 = .ok (.iconst 1, 1) := by decide +kernel
theorem dX7_nameOf_115 : decode cX7_nameOf 115 = .ok (.ireturn, 1) := by decide +kernel
theorem dX7_nameOf_116 : decode cX7_nameOf 116 = .ok (.iconst 2, 1) := by decide +kernel
theorem dX7_nameOf_117 : decode cX7_nameOf 117 = .ok (.ireturn, 1) := by decide +kernel
theorem dX7_nameOf_118 : decode cX7_nameOf 118 = .ok (.iconst 3, 1) := by decide +kernel
theorem dX7_nameOf_119 : decode cX7_nameOf 119 = .ok (.ireturn, 1) := by decide +kernel
theorem dX7_nameOf_120 : decode cX7_nameOf 120 = .ok (.iconst 4, 1) := by decide +kernel
theorem dX7_nameOf_121 : decode cX7_nameOf 121 = .ok (.ireturn, 1) := by decide +kernel
theorem dX7_nameOf_122 : decode cX7_nameOf 122 = .ok (.iconst 5, 1) := by decide +kernel
theorem dX7_nameOf_123 : decode cX7_nameOf 123 = .ok (.ireturn, 1) := by decide +kernel
theorem dX7_nameOf_124 : decode cX7_nameOf 124 = .ok (.bipush 6, 2) := by decide +kernel
theorem dX7_nameOf_126 : decode cX7_nameOf 126 = .ok (.ireturn, 1) := by decide +kernel
theorem dX7_nameOf_127 : decode cX7_nameOf 127 = .ok (.bipush 7, 2) := by decide +kernel
theorem dX7_nameOf_129 : decode cX7_nameOf 129 = .ok (.ireturn, 1) := by decide +kernel
theorem dX7_nameOf_130 : decode cX7_nameOf 130 = .ok (.bipush 8, 2) := by decide +kernel
theorem dX7_nameOf_132 : decode cX7_nameOf 132 = .ok (.ireturn, 1) := by decide +kernel
theorem dX7_nameOf_133 : decode cX7_nameOf 133 = .ok (.iconst (-1), 1) := by decide +kernel
theorem dX7_nameOf_134 : decode cX7_nameOf 134 = .ok (.ireturn, 1) := by decide +kernel
theorem dX8_init_0 : decode cX8_init 0 = .ok (.aload_n 0, 1) := by decide +kernel
theorem dX8_init_1 : decode cX8_init 1 = .ok (.invokespecial 1, 3) := by decide +kernel
theorem dX8_init_4 : decode cX8_init 4 = .ok (.aload_n 0, 1) := by decide +kernel
theorem dX8_init_5 : decode cX8_init 5 = .ok (.new 7, 3) := by decide +kernel
theorem dX8_init_8 : decode cX8_init 8 = .ok (.dup, 1) := by decide +kernel
theorem dX8_init_9 : decode cX8_init 9 = .ok (.invokespecial 9, 3) := by decide +kernel
theorem dX8_init_12 : decode cX8_init 12 = .ok (.putfield 10, 3) := by decide +kernel
theorem dX8_init_15 : decode cX8_init 15 = .ok (.aload_n 0, 1) := by decide +kernel
theorem dX8_init_16 : decode cX8_init 16 = .ok (.new 16, 3) := by decide +kernel
theorem dX8_init_19 : decode cX8_init 19 = .ok (.dup, 1) := by decide +kernel
theorem dX8_init_20 : decode cX8_init 20 = .ok (.invokespecial 18, 3) := by decide +kernel
theorem dX8_init_23 : decode cX8_init 23 = .ok (.putfield 19, 3) := by decide +kernel
theorem dX8_init_26 : decode cX8_init 26 = .ok (.aload_n 0, 1) := by decide +kernel
theorem dX8_init_27 : decode cX8_init 27 = .ok (.new 16, 3) := by decide +kernel
theorem dX8_init_30 : decode cX8_init 30 = .ok (.dup, 1) := by decide +kernel
theorem dX8_init_31 : decode cX8_init 31 = .ok (.invokespecial 18, 3) := by decide +kernel
theorem dX8_init_34 : decode cX8_init 34 = .ok (.putfield 23, 3) := by decide +kernel
theorem dX8_init_37 : decode cX8_init 37 = .ok (.aload_n 0, 1) := by decide +kernel
theorem dX8_init_38 : decode cX8_init 38 = .ok (.new 26, 3) := by decide +kernel
theorem dX8_init_41 : decode cX8_init 41 = .ok (.dup, 1) := by decide +kernel
theorem dX8_init_42 : decode cX8_init 42 = .ok (.invokespecial 28, 3) := by decide +kernel
theorem dX8_init_45 : decode cX8_init 45 = .ok (.putfield 29, 3) := by decide +kernel
theorem dX8_init_48 : decode cX8_init 48 = .ok (.aload_n 0, 1) := by decide +kernel
theorem dX8_init_49 : decode cX8_init 49 = .ok (.new 33, 3) := by decide +kernel
theorem dX8_init_52 : decode cX8_init 52 = .ok (.dup, 1) := by decide +kernel
theorem dX8_init_53 : decode cX8_init 53 = .ok (.aload_n 0, 1) := by decide +kernel
theorem dX8_init_54 : decode cX8_init 54 = .ok (.getfield 10, 3) := by decide +kernel
theorem dX8_init_57 : decode cX8_init 57 = .ok (.aload_n 0, 1) := by decide +kernel
theorem dX8_init_58 : decode cX8_init 58 = .ok (.getfield 19, 3) := by decide +kernel
theorem dX8_init_61 : decode cX8_init 61 = .ok (.invokespecial 35, 3) := by decide +kernel
theorem dX8_init_64 : decode cX8_init 64 = .ok (.putfield 38, 3) := by decide +kernel
theorem dX8_init_67 : decode cX8_init 67 = .ok (.aload_n 0, 1) := by decide +kernel
theorem dX8_init_68 : decode cX8_init 68 = .ok (.new 33, 3) := by decide +kernel
theorem dX8_init_71 : decode cX8_init 71 = .ok (.dup, 1) := by decide +kernel
theorem dX8_init_72 : decode cX8_init 72 = .ok (.aload_n 0, 1) := by decide +kernel
theorem dX8_init_73 : decode cX8_init 73 = .ok (.getfield 10, 3) := by decide +kernel
theorem dX8_init_76 : decode cX8_init 76 = .ok (.aload_n 0, 1) := by decide +kernel
theorem dX8_init_77 : decode cX8_init 77 = .ok (.getfield 19, 3) := by decide +kernel
theorem dX8_init_80 : decode cX8_init 80 = .ok (.invokespecial 35, 3) := by decide +kernel
theorem dX8_init_83 : decode cX8_init 83 = .ok (.putfield 42, 3) := by decide +kernel
theorem dX8_init_86 : decode cX8_init 86 = .ok (.aload_n 0, 1) := by decide +kernel
theorem dX8_init_87 : decode cX8_init 87 = .ok (.new 33, 3) := by decide +kernel
theorem dX8_init_90 : decode cX8_init 90 = .ok (.dup, 1) := by decide +kernel
theorem dX8_init_91 : decode cX8_init 91 = .ok (.aload_n 0, 1) := by decide +kernel
theorem dX8_init_92 : decode cX8_init 92 = .ok (.getfield 10, 3) := by decide +kernel
theorem dX8_init_95 : decode cX8_init 95 = .ok (.aload_n 0, 1) := by decide +kernel
theorem dX8_init_96 : decode cX8_init 96 = .ok (.getfield 19, 3) := by decide +kernel
theorem dX8_init_99 : decode cX8_init 99 = .ok (.invokespecial 35, 3) := by decide +kernel
theorem dX8_init_102 : decode cX8_init 102 = .ok (.putfield 45, 3) := by decide +kernel
theorem dX8_init_105 : decode cX8_init 105 = .ok (.aload_n 0, 1) := by decide +kernel
theorem dX8_init_106 : decode cX8_init 106 = .ok (.new 48, 3) := by decide +kernel
theorem dX8_init_109 : decode cX8_init 109 = .ok (.dup, 1) := by decide +kernel
theorem dX8_init_110 : decode cX8_init 110 = .ok (.invokespecial 50, 3) := by decide +kernel
theorem dX8_init_113 : decode cX8_init 113 = .ok (.putfield 51, 3) := by decide +kernel
theorem dX8_init_116 : decode cX8_init 116 = .ok (.aload_n 0, 1) := by decide +kernel
theorem dX8_init_117 : decode cX8_init 117 = .ok (.new 55, 3) := by decide +kernel
theorem dX8_init_120 : decode cX8_init 120 = .ok (.dup, 1) := by decide +kernel
theorem dX8_init_121 : decode cX8_init 121 = .ok (.invokespecial 57, 3) := by decide +kernel
theorem dX8_init_124 : decode cX8_init 124 = .ok (.putfield 58, 3) := by decide +kernel
theorem dX8_init_127 : decode cX8_init 127 = .ok (.aload_n 0, 1) := by decide +kernel
theorem dX8_init_128 : decode cX8_init 128 = .ok (.new 62, 3) := by decide +kernel
theorem dX8_init_131 : decode cX8_init 131 = .ok (.dup, 1) := by decide +kernel
theorem dX8_init_132 : decode cX8_init 132 = .ok (.invokespecial 64, 3) := by decide +kernel
theorem dX8_init_135 : decode cX8_init 135 = .ok (.putfield 65, 3) := by decide +kernel
theorem dX8_init_138 : decode cX8_init 138 = .ok (.aload_n 0, 1) := by decide +kernel
theorem dX8_init_139 : decode cX8_init 139 = .ok (.bipush 6, 2) := by decide +kernel
theorem dX8_init_141 : decode cX8_init 141 = .ok (.anewarray 69, 3) := by decide +kernel
theorem dX8_init_144 : decode cX8_init 144 = .ok (.putfield 71, 3) := by decide +kernel
theorem dX8_init_147 : decode cX8_init 147 = .ok (.aload_n 0, 1) := by decide +kernel
theorem dX8_init_148 : decode cX8_init 148 = .ok (.iconst 0, 1) := by decide +kernel
theorem dX8_init_149 : decode cX8_init 149 = .ok (.putfield 75, 3) := by decide +kernel
theorem dX8_init_152 : decode cX8_init 152 = .ok (.iconst 0, 1) := by decide +kernel
theorem dX8_init_153 : decode cX8_init 153 = .ok (.istore_n 1, 1) := by decide +kernel
theorem dX8_init_154 : decode cX8_init 154 = .ok (.iload_n 1, 1) := by decide +kernel
theorem dX8_init_155 : decode cX8_init 155 = .ok (.bipush 6, 2) := by decide +kernel
theorem dX8_init_157 : decode cX8_init 157 = .ok (.if_icmp .ge 22, 3) := by decide +kernel
theorem dX8_init_160 : decode cX8_init 160 = .ok (.aload_n 0, 1) := by decide +kernel
theorem dX8_init_161 : decode cX8_init 161 = .ok (.getfield 71, 3) := by decide +kernel
theorem dX8_init_164 : decode cX8_init 164 = .ok (.iload_n 1, 1) := by decide +kernel
theorem dX8_init_165 : decode cX8_init 165 = .ok (.new 69, 3) := by decide +kernel
theorem dX8_init_168 : decode cX8_init 168 = .ok (.dup, 1) := by decide +kernel
theorem dX8_init_169 : decode cX8_init 169 = .ok (.invokespecial 79, 3) := by decide +kernel
theorem dX8_init_172 : decode cX8_init 172 = .ok (.aastore, 1) := by decide +kernel
theorem dX8_init_173 : decode cX8_init 173 = .ok (.iinc 1 1, 3) := by decide +kernel
theorem dX8_init_176 : decode cX8_init 176 = .ok (.goto (-22), 3) := by decide +kernel
theorem dX8_init_179 : decode cX8_init 179 = .ok (.return_, 1) := by decide +kernel
theorem dX8_sitter_0 : decode cX8_sitter 0 = .ok (.iload_n 1, 1) := by decide +kernel
theorem dX8_sitter_1 : decode cX8_sitter 1 = .ok (.ifCond .lt 10, 3) := by decide +kernel
theorem dX8_sitter_4 : decode cX8_sitter 4 = .ok (.iload_n 1, 1) := by decide +kernel
theorem dX8_sitter_5 : decode cX8_sitter 5 = .ok (.sipush 999, 3) := by decide +kernel
theorem dX8_sitter_8 : decode cX8_sitter 8 = .ok (.if_icmp .le 5, 3) := by decide +kernel
theorem dX8_sitter_11 : decode cX8_sitter 11 = .ok (.iconst (-1), 1) := by decide +kernel
theorem dX8_sitter_12 : decode cX8_sitter 12 = .ok (.ireturn, 1) := by decide +kernel
theorem dX8_sitter_13 : decode cX8_sitter 13 = .ok (.aload_n 0, 1) := by decide +kernel
theorem dX8_sitter_14 : decode cX8_sitter 14 = .ok (.getfield 38, 3) := by decide +kernel
theorem dX8_sitter_17 : decode cX8_sitter 17 = .ok (.getfield 80, 3) := by decide +kernel
theorem dX8_sitter_20 : decode cX8_sitter 20 = .ok (.ifCond .eq 6, 3) := by decide +kernel
theorem dX8_sitter_23 : decode cX8_sitter 23 = .ok (.bipush (-5), 2) := by decide +kernel
theorem dX8_sitter_25 : decode cX8_sitter 25 = .ok (.ireturn, 1) := by decide +kernel
theorem dX8_sitter_26 : decode cX8_sitter 26 = .ok (.aload_n 0, 1) := by decide +kernel
theorem dX8_sitter_27 : decode cX8_sitter 27 = .ok (.getfield 10, 3) := by decide +kernel
theorem dX8_sitter_30 : decode cX8_sitter 30 = .ok (.iload_n 1, 1) := by decide +kernel
theorem dX8_sitter_31 : decode cX8_sitter 31 = .ok (.bipush 100, 2) := by decide +kernel
theorem dX8_sitter_33 : decode cX8_sitter 33 = .ok (.idiv, 1) := by decide +kernel
theorem dX8_sitter_34 : decode cX8_sitter 34 = .ok (.iload_n 1, 1) := by decide +kernel
theorem dX8_sitter_35 : decode cX8_sitter 35 = .ok (.bipush 10, 2) := by decide +kernel
theorem dX8_sitter_37 : decode cX8_sitter 37 = .ok (.idiv, 1) := by decide +kernel
theorem dX8_sitter_38 : decode cX8_sitter 38 = .ok (.bipush 10, 2) := by decide +kernel
theorem dX8_sitter_40 : decode cX8_sitter 40 = .ok (.irem, 1) := by decide +kernel
theorem dX8_sitter_41 : decode cX8_sitter 41 = .ok (.iload_n 1, 1) := by decide +kernel
theorem dX8_sitter_42 : decode cX8_sitter 42 = .ok (.bipush 10, 2) := by decide +kernel
theorem dX8_sitter_44 : decode cX8_sitter 44 = .ok (.irem, 1) := by decide +kernel
theorem dX8_sitter_45 : decode cX8_sitter 45 = .ok (.invokevirtual 84, 3) := by decide +kernel
theorem dX8_sitter_48 : decode cX8_sitter 48 = .ok (.ireturn, 1) := by decide +kernel
theorem dX8_sitters_0 : decode cX8_sitters 0 = .ok (.iload_n 1, 1) := by decide +kernel
theorem dX8_sitters_1 : decode cX8_sitters 1 = .ok (.invokestatic 88, 3) := by decide +kernel
theorem dX8_sitters_4 : decode cX8_sitters 4 = .ok (.ifCond .eq 14, 3) := by decide +kernel
theorem dX8_sitters_7 : decode cX8_sitters 7 = .ok (.iload_n 3, 1) := by decide +kernel
theorem dX8_sitters_8 : decode cX8_sitters 8 = .ok (.iconst 1, 1) := by decide +kernel
theorem dX8_sitters_9 : decode cX8_sitters 9 = .ok (.if_icmp .lt 9, 3) := by decide +kernel
theorem dX8_sitters_12 : decode cX8_sitters 12 = .ok (.iload_n 3, 1) := by decide +kernel
theorem dX8_sitters_13 : decode cX8_sitters 13 = .ok (.bipush 8, 2) := by decide +kernel
theorem dX8_sitters_15 : decode cX8_sitters 15 = .ok (.if_icmp .le 5, 3) := by decide +kernel
theorem dX8_sitters_18 : decode cX8_sitters 18 = .ok (.iconst (-1), 1) := by decide +kernel
theorem dX8_sitters_19 : decode cX8_sitters 19 = .ok (.ireturn, 1) := by decide +kernel
theorem dX8_sitters_20 : decode cX8_sitters 20 = .ok (.aload_n 0, 1) := by decide +kernel
theorem dX8_sitters_21 : decode cX8_sitters 21 = .ok (.getfield 71, 3) := by decide +kernel
theorem dX8_sitters_24 : decode cX8_sitters 24 = .ok (.iload_n 1, 1) := by decide +kernel
theorem dX8_sitters_25 : decode cX8_sitters 25 = .ok (.aaload, 1) := by decide +kernel
theorem dX8_sitters_26 : decode cX8_sitters 26 = .ok (.astore 4, 2) := by decide +kernel
theorem dX8_sitters_28 : decode cX8_sitters 28 = .ok (.aload 4, 2) := by decide +kernel
theorem dX8_sitters_30 : decode cX8_sitters 30 = .ok (.getfield 92, 3) := by decide +kernel
theorem dX8_sitters_33 : decode cX8_sitters 33 = .ok (.bipush (-2), 2) := by decide +kernel
theorem dX8_sitters_35 : decode cX8_sitters 35 = .ok (.if_icmp .eq 14, 3) := by decide +kernel
theorem dX8_sitters_38 : decode cX8_sitters 38 = .ok (.aload 4, 2) := by decide +kernel
theorem dX8_sitters_40 : decode cX8_sitters 40 = .ok (.getfield 92, 3) := by decide +kernel
theorem dX8_sitters_43 : decode cX8_sitters 43 = .ok (.ifCond .eq 6, 3) := by decide +kernel
theorem dX8_sitters_46 : decode cX8_sitters 46 = .ok (.bipush (-12), 2) := by decide +kernel
theorem dX8_sitters_48 : decode cX8_sitters 48 = .ok (.ireturn, 1) := by decide +kernel
theorem dX8_sitters_49 : decode cX8_sitters 49 = .ok (.aload_n 0, 1) := by decide +kernel
theorem dX8_sitters_50 : decode cX8_sitters 50 = .ok (.getfield 38, 3) := by decide +kernel
theorem dX8_sitters_53 : decode cX8_sitters 53 = .ok (.getfield 80, 3) := by decide +kernel
theorem dX8_sitters_56 : decode cX8_sitters 56 = .ok (.ifCond .eq 6, 3) := by decide +kernel
theorem dX8_sitters_59 : decode cX8_sitters 59 = .ok (.bipush (-5), 2) := by decide +kernel
theorem dX8_sitters_61 : decode cX8_sitters 61 = .ok (.ireturn, 1) := by decide +kernel
theorem dX8_sitters_62 : decode cX8_sitters 62 = .ok (.iconst 0, 1) := by decide +kernel
theorem dX8_sitters_63 : decode cX8_sitters 63 = .ok (.istore 5, 2) := by decide +kernel
theorem dX8_sitters_65 : decode cX8_sitters 65 = .ok (.iload 5, 2) := by decide +kernel
theorem dX8_sitters_67 : decode cX8_sitters 67 = .ok (.iload_n 3, 1) := by decide +kernel
theorem dX8_sitters_68 : decode cX8_sitters 68 = .ok (.if_icmp .ge 24, 3) := by decide +kernel
theorem dX8_sitters_71 : decode cX8_sitters 71 = .ok (.aload_n 0, 1) := by decide +kernel
theorem dX8_sitters_72 : decode cX8_sitters 72 = .ok (.aload 4, 2) := by decide +kernel
theorem dX8_sitters_74 : decode cX8_sitters 74 = .ok (.iload_n 2, 1) := by decide +kernel
theorem dX8_sitters_75 : decode cX8_sitters 75 = .ok (.iconst 3, 1) := by decide +kernel
theorem dX8_sitters_76 : decode cX8_sitters 76 = .ok (.iload 5, 2) := by decide +kernel
theorem dX8_sitters_78 : decode cX8_sitters 78 = .ok (.imul, 1) := by decide +kernel
theorem dX8_sitters_79 : decode cX8_sitters 79 = .ok (.iadd, 1) := by decide +kernel
theorem dX8_sitters_80 : decode cX8_sitters 80 = .ok (.invokevirtual 95, 3) := by decide +kernel
theorem dX8_sitters_83 : decode cX8_sitters 83 = .ok (.ifCond .eq 9, 3) := by decide +kernel
theorem dX8_sitters_86 : decode cX8_sitters 86 = .ok (.iinc 5 1, 3) := by decide +kernel
theorem dX8_sitters_89 : decode cX8_sitters 89 = .ok (.goto (-24), 3) := by decide +kernel
theorem dX8_sitters_92 : decode cX8_sitters 92 = .ok (.iload 5, 2) := by decide +kernel
theorem dX8_sitters_94 : decode cX8_sitters 94 = .ok (.ireturn, 1) := by decide +kernel
theorem dX8_wide_0 : decode cX8_wide 0 = .ok (.iload_n 1, 1) := by decide +kernel
theorem dX8_wide_1 : decode cX8_wide 1 = .ok (.ifCond .lt 19, 3) := by decide +kernel
theorem dX8_wide_4 : decode cX8_wide 4 = .ok (.iload_n 1, 1) := by decide +kernel
theorem dX8_wide_5 : decode cX8_wide 5 = .ok (.bipush 7, 2) := by decide +kernel
theorem dX8_wide_7 : decode cX8_wide 7 = .ok (.if_icmp .ge 13, 3) := by decide +kernel
theorem dX8_wide_10 : decode cX8_wide 10 = .ok (.iload_n 2, 1) := by decide +kernel
theorem dX8_wide_11 : decode cX8_wide 11 = .ok (.ifCond .lt 9, 3) := by decide +kernel
theorem dX8_wide_14 : decode cX8_wide 14 = .ok (.iload_n 2, 1) := by decide +kernel
theorem dX8_wide_15 : decode cX8_wide 15 = .ok (.bipush 9, 2) := by decide +kernel
theorem dX8_wide_17 : decode cX8_wide 17 = .ok (.if_icmp .le 5, 3) := by decide +kernel
theorem dX8_wide_20 : decode cX8_wide 20 = .ok (.iconst (-1), 1) := by decide +kernel
theorem dX8_wide_21 : decode cX8_wide 21 = .ok (.ireturn, 1) := by decide +kernel
theorem dX8_wide_22 : decode cX8_wide 22 = .ok (.aload_n 0, 1) := by decide +kernel
theorem dX8_wide_23 : decode cX8_wide 23 = .ok (.getfield 38, 3) := by decide +kernel
theorem dX8_wide_26 : decode cX8_wide 26 = .ok (.getfield 99, 3) := by decide +kernel
theorem dX8_wide_29 : decode cX8_wide 29 = .ok (.iload_n 1, 1) := by decide +kernel
theorem dX8_wide_30 : decode cX8_wide 30 = .ok (.iaload, 1) := by decide +kernel
theorem dX8_wide_31 : decode cX8_wide 31 = .ok (.istore_n 3, 1) := by decide +kernel
theorem dX8_wide_32 : decode cX8_wide 32 = .ok (.aload_n 0, 1) := by decide +kernel
theorem dX8_wide_33 : decode cX8_wide 33 = .ok (.getfield 38, 3) := by decide +kernel
theorem dX8_wide_36 : decode cX8_wide 36 = .ok (.iload_n 1, 1) := by decide +kernel
theorem dX8_wide_37 : decode cX8_wide 37 = .ok (.iload_n 2, 1) := by decide +kernel
theorem dX8_wide_38 : decode cX8_wide 38 = .ok (.invokevirtual 103, 3) := by decide +kernel
theorem dX8_wide_41 : decode cX8_wide 41 = .ok (.iload_n 3, 1) := by decide +kernel
theorem dX8_wide_42 : decode cX8_wide 42 = .ok (.ireturn, 1) := by decide +kernel
theorem dX8_hours_0 : decode cX8_hours 0 = .ok (.iload_n 2, 1) := by decide +kernel
theorem dX8_hours_1 : decode cX8_hours 1 = .ok (.bipush 100, 2) := by decide +kernel
theorem dX8_hours_3 : decode cX8_hours 3 = .ok (.idiv, 1) := by decide +kernel
theorem dX8_hours_4 : decode cX8_hours 4 = .ok (.istore 4, 2) := by decide +kernel
theorem dX8_hours_6 : decode cX8_hours 6 = .ok (.iload_n 2, 1) := by decide +kernel
theorem dX8_hours_7 : decode cX8_hours 7 = .ok (.bipush 100, 2) := by decide +kernel
theorem dX8_hours_9 : decode cX8_hours 9 = .ok (.irem, 1) := by decide +kernel
theorem dX8_hours_10 : decode cX8_hours 10 = .ok (.istore 5, 2) := by decide +kernel
theorem dX8_hours_12 : decode cX8_hours 12 = .ok (.aload_n 0, 1) := by decide +kernel
theorem dX8_hours_13 : decode cX8_hours 13 = .ok (.getfield 10, 3) := by decide +kernel
theorem dX8_hours_16 : decode cX8_hours 16 = .ok (.iload_n 1, 1) := by decide +kernel
theorem dX8_hours_17 : decode cX8_hours 17 = .ok (.invokevirtual 107, 3) := by decide +kernel
theorem dX8_hours_20 : decode cX8_hours 20 = .ok (.ifCond .eq 21, 3) := by decide +kernel
theorem dX8_hours_23 : decode cX8_hours 23 = .ok (.iload_n 2, 1) := by decide +kernel
theorem dX8_hours_24 : decode cX8_hours 24 = .ok (.ifCond .lt 17, 3) := by decide +kernel
theorem dX8_hours_27 : decode cX8_hours 27 = .ok (.iload 5, 2) := by decide +kernel
theorem dX8_hours_29 : decode cX8_hours 29 = .ok (.iload 4, 2) := by decide +kernel
theorem dX8_hours_31 : decode cX8_hours 31 = .ok (.if_icmp .lt 10, 3) := by decide +kernel
theorem dX8_hours_34 : decode cX8_hours 34 = .ok (.iload 5, 2) := by decide +kernel
theorem dX8_hours_36 : decode cX8_hours 36 = .ok (.bipush 24, 2) := by decide +kernel
theorem dX8_hours_38 : decode cX8_hours 38 = .ok (.if_icmp .lt 5, 3) := by decide +kernel
theorem dX8_hours_41 : decode cX8_hours 41 = .ok (.iconst (-1), 1) := by decide +kernel
theorem dX8_hours_42 : decode cX8_hours 42 = .ok (.ireturn, 1) := by decide +kernel
theorem dX8_hours_43 : decode cX8_hours 43 = .ok (.iload_n 3, 1) := by decide +kernel
theorem dX8_hours_44 : decode cX8_hours 44 = .ok (.ifCond .lt 8, 3) := by decide +kernel
theorem dX8_hours_47 : decode cX8_hours 47 = .ok (.iload_n 3, 1) := by decide +kernel
theorem dX8_hours_48 : decode cX8_hours 48 = .ok (.iconst 3, 1) := by decide +kernel
theorem dX8_hours_49 : decode cX8_hours 49 = .ok (.if_icmp .le 5, 3) := by decide +kernel
theorem dX8_hours_52 : decode cX8_hours 52 = .ok (.iconst (-1), 1) := by decide +kernel
theorem dX8_hours_53 : decode cX8_hours 53 = .ok (.ireturn, 1) := by decide +kernel
theorem dX8_hours_54 : decode cX8_hours 54 = .ok (.iload 4, 2) := by decide +kernel
theorem dX8_hours_56 : decode cX8_hours 56 = .ok (.aload_n 0, 1) := by decide +kernel
theorem dX8_hours_57 : decode cX8_hours 57 = .ok (.getfield 38, 3) := by decide +kernel
theorem dX8_hours_60 : decode cX8_hours 60 = .ok (.getfield 80, 3) := by decide +kernel
theorem dX8_hours_63 : decode cX8_hours 63 = .ok (.if_icmp .ge 6, 3) := by decide +kernel
theorem dX8_hours_66 : decode cX8_hours 66 = .ok (.bipush (-5), 2) := by decide +kernel
theorem dX8_hours_68 : decode cX8_hours 68 = .ok (.ireturn, 1) := by decide +kernel
theorem dX8_hours_69 : decode cX8_hours 69 = .ok (.iload 4, 2) := by decide +kernel
theorem dX8_hours_71 : decode cX8_hours 71 = .ok (.istore 6, 2) := by decide +kernel
theorem dX8_hours_73 : decode cX8_hours 73 = .ok (.iload 6, 2) := by decide +kernel
theorem dX8_hours_75 : decode cX8_hours 75 = .ok (.iload 5, 2) := by decide +kernel
theorem dX8_hours_77 : decode cX8_hours 77 = .ok (.if_icmp .gt 20, 3) := by decide +kernel
theorem dX8_hours_80 : decode cX8_hours 80 = .ok (.aload_n 0, 1) := by decide +kernel
theorem dX8_hours_81 : decode cX8_hours 81 = .ok (.getfield 10, 3) := by decide +kernel
theorem dX8_hours_84 : decode cX8_hours 84 = .ok (.iload_n 1, 1) := by decide +kernel
theorem dX8_hours_85 : decode cX8_hours 85 = .ok (.iload 6, 2) := by decide +kernel
theorem dX8_hours_87 : decode cX8_hours 87 = .ok (.iload_n 3, 1) := by decide +kernel
theorem dX8_hours_88 : decode cX8_hours 88 = .ok (.invokevirtual 110, 3) := by decide +kernel
theorem dX8_hours_91 : decode cX8_hours 91 = .ok (.iinc 6 1, 3) := by decide +kernel
theorem dX8_hours_94 : decode cX8_hours 94 = .ok (.goto (-21), 3) := by decide +kernel
theorem dX8_hours_97 : decode cX8_hours 97 = .ok (.iload 5, 2) := by decide +kernel
theorem dX8_hours_99 : decode cX8_hours 99 = .ok (.iload 4, 2) := by decide +kernel
theorem dX8_hours_101 : decode cX8_hours 101 = .ok (.isub, 1) := by decide +kernel
theorem dX8_hours_102 : decode cX8_hours 102 = .ok (.iconst 1, 1) := by decide +kernel
theorem dX8_hours_103 : decode cX8_hours 103 = .ok (.iadd, 1) := by decide +kernel
theorem dX8_hours_104 : decode cX8_hours 104 = .ok (.ireturn, 1) := by decide +kernel
theorem dX8_mend_0 : decode cX8_mend 0 = .ok (.aload_n 0, 1) := by decide +kernel
theorem dX8_mend_1 : decode cX8_mend 1 = .ok (.getfield 10, 3) := by decide +kernel
theorem dX8_mend_4 : decode cX8_mend 4 = .ok (.iload_n 1, 1) := by decide +kernel
theorem dX8_mend_5 : decode cX8_mend 5 = .ok (.invokevirtual 107, 3) := by decide +kernel
theorem dX8_mend_8 : decode cX8_mend 8 = .ok (.ifCond .eq 12, 3) := by decide +kernel
theorem dX8_mend_11 : decode cX8_mend 11 = .ok (.iload_n 2, 1) := by decide +kernel
theorem dX8_mend_12 : decode cX8_mend 12 = .ok (.ifCond .lt 8, 3) := by decide +kernel
theorem dX8_mend_15 : decode cX8_mend 15 = .ok (.iload_n 2, 1) := by decide +kernel
theorem dX8_mend_16 : decode cX8_mend 16 = .ok (.iconst 4, 1) := by decide +kernel
theorem dX8_mend_17 : decode cX8_mend 17 = .ok (.if_icmp .le 5, 3) := by decide +kernel
theorem dX8_mend_20 : decode cX8_mend 20 = .ok (.iconst (-1), 1) := by decide +kernel
theorem dX8_mend_21 : decode cX8_mend 21 = .ok (.ireturn, 1) := by decide +kernel
theorem dX8_mend_22 : decode cX8_mend 22 = .ok (.iload_n 3, 1) := by decide +kernel
theorem dX8_mend_23 : decode cX8_mend 23 = .ok (.ifCond .lt 19, 3) := by decide +kernel
theorem dX8_mend_26 : decode cX8_mend 26 = .ok (.iload_n 3, 1) := by decide +kernel
theorem dX8_mend_27 : decode cX8_mend 27 = .ok (.iload_n 2, 1) := by decide +kernel
theorem dX8_mend_28 : decode cX8_mend 28 = .ok (.iconst 3, 1) := by decide +kernel
theorem dX8_mend_29 : decode cX8_mend 29 = .ok (.if_icmp .ge 8, 3) := by decide +kernel
theorem dX8_mend_32 : decode cX8_mend 32 = .ok (.bipush 9, 2) := by decide +kernel
theorem dX8_mend_34 : decode cX8_mend 34 = .ok (.goto 5, 3) := by decide +kernel
theorem dX8_mend_37 : decode cX8_mend 37 = .ok (.bipush 99, 2) := by decide +kernel
theorem dX8_mend_39 : decode cX8_mend 39 = .ok (.if_icmp .le 5, 3) := by decide +kernel
theorem dX8_mend_42 : decode cX8_mend 42 = .ok (.iconst (-1), 1) := by decide +kernel
theorem dX8_mend_43 : decode cX8_mend 43 = .ok (.ireturn, 1) := by decide +kernel
theorem dX8_mend_44 : decode cX8_mend 44 = .ok (.aload_n 0, 1) := by decide +kernel
theorem dX8_mend_45 : decode cX8_mend 45 = .ok (.getfield 10, 3) := by decide +kernel
theorem dX8_mend_48 : decode cX8_mend 48 = .ok (.iload_n 1, 1) := by decide +kernel
theorem dX8_mend_49 : decode cX8_mend 49 = .ok (.iload_n 2, 1) := by decide +kernel
theorem dX8_mend_50 : decode cX8_mend 50 = .ok (.invokevirtual 114, 3) := by decide +kernel
theorem dX8_mend_53 : decode cX8_mend 53 = .ok (.istore 4, 2) := by decide +kernel
theorem dX8_mend_55 : decode cX8_mend 55 = .ok (.iload_n 3, 1) := by decide +kernel
theorem dX8_mend_56 : decode cX8_mend 56 = .ok (.iload 4, 2) := by decide +kernel
theorem dX8_mend_58 : decode cX8_mend 58 = .ok (.if_icmp .eq 25, 3) := by decide +kernel
theorem dX8_mend_61 : decode cX8_mend 61 = .ok (.aload_n 0, 1) := by decide +kernel
theorem dX8_mend_62 : decode cX8_mend 62 = .ok (.getfield 10, 3) := by decide +kernel
theorem dX8_mend_65 : decode cX8_mend 65 = .ok (.iload_n 1, 1) := by decide +kernel
theorem dX8_mend_66 : decode cX8_mend 66 = .ok (.iload_n 2, 1) := by decide +kernel
theorem dX8_mend_67 : decode cX8_mend 67 = .ok (.iload_n 3, 1) := by decide +kernel
theorem dX8_mend_68 : decode cX8_mend 68 = .ok (.invokevirtual 118, 3) := by decide +kernel
theorem dX8_mend_71 : decode cX8_mend 71 = .ok (.aload_n 0, 1) := by decide +kernel
theorem dX8_mend_72 : decode cX8_mend 72 = .ok (.getfield 58, 3) := by decide +kernel
theorem dX8_mend_75 : decode cX8_mend 75 = .ok (.iload_n 1, 1) := by decide +kernel
theorem dX8_mend_76 : decode cX8_mend 76 = .ok (.iload_n 2, 1) := by decide +kernel
theorem dX8_mend_77 : decode cX8_mend 77 = .ok (.iload 4, 2) := by decide +kernel
theorem dX8_mend_79 : decode cX8_mend 79 = .ok (.iload_n 3, 1) := by decide +kernel
theorem dX8_mend_80 : decode cX8_mend 80 = .ok (.invokevirtual 121, 3) := by decide +kernel
theorem dX8_mend_83 : decode cX8_mend 83 = .ok (.iload 4, 2) := by decide +kernel
theorem dX8_mend_85 : decode cX8_mend 85 = .ok (.ireturn, 1) := by decide +kernel
theorem dX8_of_0 : decode cX8_of 0 = .ok (.aload_n 0, 1) := by decide +kernel
theorem dX8_of_1 : decode cX8_of 1 = .ok (.getfield 10, 3) := by decide +kernel
theorem dX8_of_4 : decode cX8_of 4 = .ok (.iload_n 1, 1) := by decide +kernel
theorem dX8_of_5 : decode cX8_of 5 = .ok (.invokevirtual 107, 3) := by decide +kernel
theorem dX8_of_8 : decode cX8_of 8 = .ok (.ifCond .ne 6, 3) := by decide +kernel
theorem dX8_of_11 : decode cX8_of 11 = .ok (.ldc 124, 2) := by decide +kernel
theorem dX8_of_13 : decode cX8_of 13 = .ok (.ireturn, 1) := by decide +kernel
theorem dX8_of_14 : decode cX8_of 14 = .ok (.iload_n 2, 1) := by decide +kernel
theorem dX8_of_15 : decode cX8_of 15 = .ok (.ifCond .lt 18, 3) := by decide +kernel
theorem dX8_of_18 : decode cX8_of 18 = .ok (.iload_n 2, 1) := by decide +kernel
theorem dX8_of_19 : decode cX8_of 19 = .ok (.iconst 4, 1) := by decide +kernel
theorem dX8_of_20 : decode cX8_of 20 = .ok (.if_icmp .gt 13, 3) := by decide +kernel
theorem dX8_of_23 : decode cX8_of 23 = .ok (.aload_n 0, 1) := by decide +kernel
theorem dX8_of_24 : decode cX8_of 24 = .ok (.getfield 10, 3) := by decide +kernel
theorem dX8_of_27 : decode cX8_of 27 = .ok (.iload_n 1, 1) := by decide +kernel
theorem dX8_of_28 : decode cX8_of 28 = .ok (.iload_n 2, 1) := by decide +kernel
theorem dX8_of_29 : decode cX8_of 29 = .ok (.invokevirtual 114, 3) := by decide +kernel
theorem dX8_of_32 : decode cX8_of 32 = .ok (.ireturn, 1) := by decide +kernel
theorem dX8_of_33 : decode cX8_of 33 = .ok (.iload_n 2, 1) := by decide +kernel
theorem dX8_of_34 : decode cX8_of 34 = .ok (.bipush 100, 2) := by decide +kernel
theorem dX8_of_36 : decode cX8_of 36 = .ok (.if_icmp .lt 22, 3) := by decide +kernel
theorem dX8_of_39 : decode cX8_of 39 = .ok (.iload_n 2, 1) := by decide +kernel
theorem dX8_of_40 : decode cX8_of 40 = .ok (.bipush 124, 2) := by decide +kernel
theorem dX8_of_42 : decode cX8_of 42 = .ok (.if_icmp .ge 16, 3) := by decide +kernel
theorem dX8_of_45 : decode cX8_of 45 = .ok (.aload_n 0, 1) := by decide +kernel
theorem dX8_of_46 : decode cX8_of 46 = .ok (.getfield 10, 3) := by decide +kernel
theorem dX8_of_49 : decode cX8_of 49 = .ok (.iload_n 1, 1) := by decide +kernel
theorem dX8_of_50 : decode cX8_of 50 = .ok (.iload_n 2, 1) := by decide +kernel
theorem dX8_of_51 : decode cX8_of 51 = .ok (.bipush 100, 2) := by decide +kernel
theorem dX8_of_53 : decode cX8_of 53 = .ok (.isub, 1) := by decide +kernel
theorem dX8_of_54 : decode cX8_of 54 = .ok (.invokevirtual 125, 3) := by decide +kernel
theorem dX8_of_57 : decode cX8_of 57 = .ok (.ireturn, 1) := by decide +kernel
theorem dX8_of_58 : decode cX8_of 58 = .ok (.iload_n 2, 1) := by decide +kernel
theorem dX8_of_59 : decode cX8_of 59 = .ok (.tableswitch 54 5 7 #[25, 34, 44], 25) := by decide +kernel
theorem dX8_of_84 : decode cX8_of 84 = .ok (.aload_n 0, 1) := by decide +kernel
theorem dX8_of_85 : decode cX8_of 85 = .ok (.getfield 38, 3) := by decide +kernel
theorem dX8_of_88 : decode cX8_of 88 = .ok (.iload_n 1, 1) := by decide +kernel
theorem dX8_of_89 : decode cX8_of 89 = .ok (.invokevirtual 128, 3) := by decide +kernel
theorem dX8_of_92 : decode cX8_of 92 = .ok (.ireturn, 1) := by decide +kernel
theorem dX8_of_93 : decode cX8_of 93 = .ok (.aload_n 0, 1) := by decide +kernel
theorem dX8_of_94 : decode cX8_of 94 = .ok (.getfield 38, 3) := by decide +kernel
theorem dX8_of_97 : decode cX8_of 97 = .ok (.getfield 132, 3) := by decide +kernel
theorem dX8_of_100 : decode cX8_of 100 = .ok (.iload_n 1, 1) := by decide +kernel
theorem dX8_of_101 : decode cX8_of 101 = .ok (.iaload, 1) := by decide +kernel
theorem dX8_of_102 : decode cX8_of 102 = .ok (.ireturn, 1) := by decide +kernel
theorem dX8_of_103 : decode cX8_of 103 = .ok (.aload_n 0, 1) := by decide +kernel
theorem dX8_of_104 : decode cX8_of 104 = .ok (.getfield 38, 3) := by decide +kernel
theorem dX8_of_107 : decode cX8_of 107 = .ok (.getfield 135, 3) := by decide +kernel
theorem dX8_of_110 : decode cX8_of 110 = .ok (.iload_n 1, 1) := by decide +kernel
theorem dX8_of_111 : decode cX8_of 111 = .ok (.iaload, 1) := by decide +kernel
theorem dX8_of_112 : decode cX8_of 112 = .ok (.ireturn, 1) := by decide +kernel
theorem dX8_of_113 : decode cX8_of 113 = .ok (.ldc 124, 2) := by decide +kernel
theorem dX8_of_115 : decode cX8_of 115 = .ok (.ireturn, 1) := by decide +kernel
theorem dX8_feed_0 : decode cX8_feed 0 = .ok (.iload_n 1, 1) := by decide +kernel
theorem dX8_feed_1 : decode cX8_feed 1 = .ok (.ifCond .lt 10, 3) := by decide +kernel
theorem dX8_feed_4 : decode cX8_feed 4 = .ok (.iload_n 1, 1) := by decide +kernel
theorem dX8_feed_5 : decode cX8_feed 5 = .ok (.sipush 255, 3) := by decide +kernel
theorem dX8_feed_8 : decode cX8_feed 8 = .ok (.if_icmp .le 5, 3) := by decide +kernel
theorem dX8_feed_11 : decode cX8_feed 11 = .ok (.iconst (-1), 1) := by decide +kernel
theorem dX8_feed_12 : decode cX8_feed 12 = .ok (.ireturn, 1) := by decide +kernel
theorem dX8_feed_13 : decode cX8_feed 13 = .ok (.aload_n 0, 1) := by decide +kernel
theorem dX8_feed_14 : decode cX8_feed 14 = .ok (.getfield 29, 3) := by decide +kernel
theorem dX8_feed_17 : decode cX8_feed 17 = .ok (.iload_n 1, 1) := by decide +kernel
theorem dX8_feed_18 : decode cX8_feed 18 = .ok (.invokevirtual 138, 3) := by decide +kernel
theorem dX8_feed_21 : decode cX8_feed 21 = .ok (.ireturn, 1) := by decide +kernel
theorem dX8_law_0 : decode cX8_law 0 = .ok (.aload_n 0, 1) := by decide +kernel
theorem dX8_law_1 : decode cX8_law 1 = .ok (.getfield 29, 3) := by decide +kernel
theorem dX8_law_4 : decode cX8_law 4 = .ok (.aload_n 0, 1) := by decide +kernel
theorem dX8_law_5 : decode cX8_law 5 = .ok (.getfield 23, 3) := by decide +kernel
theorem dX8_law_8 : decode cX8_law 8 = .ok (.invokevirtual 140, 3) := by decide +kernel
theorem dX8_law_11 : decode cX8_law 11 = .ok (.istore_n 1, 1) := by decide +kernel
theorem dX8_law_12 : decode cX8_law 12 = .ok (.aload_n 0, 1) := by decide +kernel
theorem dX8_law_13 : decode cX8_law 13 = .ok (.getfield 29, 3) := by decide +kernel
theorem dX8_law_16 : decode cX8_law 16 = .ok (.invokevirtual 144, 3) := by decide +kernel
theorem dX8_law_19 : decode cX8_law 19 = .ok (.iload_n 1, 1) := by decide +kernel
theorem dX8_law_20 : decode cX8_law 20 = .ok (.ifCond .lt 8, 3) := by decide +kernel
theorem dX8_law_23 : decode cX8_law 23 = .ok (.bipush (-100), 2) := by decide +kernel
theorem dX8_law_25 : decode cX8_law 25 = .ok (.iload_n 1, 1) := by decide +kernel
theorem dX8_law_26 : decode cX8_law 26 = .ok (.isub, 1) := by decide +kernel
theorem dX8_law_27 : decode cX8_law 27 = .ok (.ireturn, 1) := by decide +kernel
theorem dX8_law_28 : decode cX8_law 28 = .ok (.aload_n 0, 1) := by decide +kernel
theorem dX8_law_29 : decode cX8_law 29 = .ok (.getfield 19, 3) := by decide +kernel
theorem dX8_law_32 : decode cX8_law 32 = .ok (.aload_n 0, 1) := by decide +kernel
theorem dX8_law_33 : decode cX8_law 33 = .ok (.getfield 23, 3) := by decide +kernel
theorem dX8_law_36 : decode cX8_law 36 = .ok (.invokevirtual 147, 3) := by decide +kernel
theorem dX8_law_39 : decode cX8_law 39 = .ok (.iconst 1, 1) := by decide +kernel
theorem dX8_law_40 : decode cX8_law 40 = .ok (.ireturn, 1) := by decide +kernel
theorem dX8_rest_0 : decode cX8_rest 0 = .ok (.iload_n 1, 1) := by decide +kernel
theorem dX8_rest_1 : decode cX8_rest 1 = .ok (.ifCond .lt 9, 3) := by decide +kernel
theorem dX8_rest_4 : decode cX8_rest 4 = .ok (.iload_n 1, 1) := by decide +kernel
theorem dX8_rest_5 : decode cX8_rest 5 = .ok (.bipush 7, 2) := by decide +kernel
theorem dX8_rest_7 : decode cX8_rest 7 = .ok (.if_icmp .lt 5, 3) := by decide +kernel
theorem dX8_rest_10 : decode cX8_rest 10 = .ok (.iconst (-1), 1) := by decide +kernel
theorem dX8_rest_11 : decode cX8_rest 11 = .ok (.ireturn, 1) := by decide +kernel
theorem dX8_rest_12 : decode cX8_rest 12 = .ok (.iload_n 2, 1) := by decide +kernel
theorem dX8_rest_13 : decode cX8_rest 13 = .ok (.iconst 4, 1) := by decide +kernel
theorem dX8_rest_14 : decode cX8_rest 14 = .ok (.if_icmp .ne 13, 3) := by decide +kernel
theorem dX8_rest_17 : decode cX8_rest 17 = .ok (.aload_n 0, 1) := by decide +kernel
theorem dX8_rest_18 : decode cX8_rest 18 = .ok (.getfield 38, 3) := by decide +kernel
theorem dX8_rest_21 : decode cX8_rest 21 = .ok (.getfield 99, 3) := by decide +kernel
theorem dX8_rest_24 : decode cX8_rest 24 = .ok (.iload_n 1, 1) := by decide +kernel
theorem dX8_rest_25 : decode cX8_rest 25 = .ok (.iaload, 1) := by decide +kernel
theorem dX8_rest_26 : decode cX8_rest 26 = .ok (.ireturn, 1) := by decide +kernel
theorem dX8_rest_27 : decode cX8_rest 27 = .ok (.aload_n 0, 1) := by decide +kernel
theorem dX8_rest_28 : decode cX8_rest 28 = .ok (.getfield 10, 3) := by decide +kernel
theorem dX8_rest_31 : decode cX8_rest 31 = .ok (.iload_n 1, 1) := by decide +kernel
theorem dX8_rest_32 : decode cX8_rest 32 = .ok (.invokevirtual 150, 3) := by decide +kernel
theorem dX8_rest_35 : decode cX8_rest 35 = .ok (.ifCond .ne 5, 3) := by decide +kernel
theorem dX8_rest_38 : decode cX8_rest 38 = .ok (.iconst (-1), 1) := by decide +kernel
theorem dX8_rest_39 : decode cX8_rest 39 = .ok (.ireturn, 1) := by decide +kernel
theorem dX8_rest_40 : decode cX8_rest 40 = .ok (.iload_n 2, 1) := by decide +kernel
theorem dX8_rest_41 : decode cX8_rest 41 = .ok (.tableswitch 70 0 3 #[31, 41, 51, 61], 31) := by decide +kernel
theorem dX8_rest_72 : decode cX8_rest 72 = .ok (.aload_n 0, 1) := by decide +kernel
theorem dX8_rest_73 : decode cX8_rest 73 = .ok (.getfield 38, 3) := by decide +kernel
theorem dX8_rest_76 : decode cX8_rest 76 = .ok (.getfield 99, 3) := by decide +kernel
theorem dX8_rest_79 : decode cX8_rest 79 = .ok (.iload_n 1, 1) := by decide +kernel
theorem dX8_rest_80 : decode cX8_rest 80 = .ok (.iaload, 1) := by decide +kernel
theorem dX8_rest_81 : decode cX8_rest 81 = .ok (.ireturn, 1) := by decide +kernel
theorem dX8_rest_82 : decode cX8_rest 82 = .ok (.aload_n 0, 1) := by decide +kernel
theorem dX8_rest_83 : decode cX8_rest 83 = .ok (.getfield 38, 3) := by decide +kernel
theorem dX8_rest_86 : decode cX8_rest 86 = .ok (.getfield 153, 3) := by decide +kernel
theorem dX8_rest_89 : decode cX8_rest 89 = .ok (.iload_n 1, 1) := by decide +kernel
theorem dX8_rest_90 : decode cX8_rest 90 = .ok (.iaload, 1) := by decide +kernel
theorem dX8_rest_91 : decode cX8_rest 91 = .ok (.ireturn, 1) := by decide +kernel
theorem dX8_rest_92 : decode cX8_rest 92 = .ok (.aload_n 0, 1) := by decide +kernel
theorem dX8_rest_93 : decode cX8_rest 93 = .ok (.getfield 38, 3) := by decide +kernel
theorem dX8_rest_96 : decode cX8_rest 96 = .ok (.getfield 156, 3) := by decide +kernel
theorem dX8_rest_99 : decode cX8_rest 99 = .ok (.iload_n 1, 1) := by decide +kernel
theorem dX8_rest_100 : decode cX8_rest 100 = .ok (.iaload, 1) := by decide +kernel
theorem dX8_rest_101 : decode cX8_rest 101 = .ok (.ireturn, 1) := by decide +kernel
theorem dX8_rest_102 : decode cX8_rest 102 = .ok (.aload_n 0, 1) := by decide +kernel
theorem dX8_rest_103 : decode cX8_rest 103 = .ok (.getfield 38, 3) := by decide +kernel
theorem dX8_rest_106 : decode cX8_rest 106 = .ok (.iload_n 1, 1) := by decide +kernel
theorem dX8_rest_107 : decode cX8_rest 107 = .ok (.invokevirtual 159, 3) := by decide +kernel
theorem dX8_rest_110 : decode cX8_rest 110 = .ok (.ireturn, 1) := by decide +kernel
theorem dX8_rest_111 : decode cX8_rest 111 = .ok (.iconst (-1), 1) := by decide +kernel
theorem dX8_rest_112 : decode cX8_rest 112 = .ok (.ireturn, 1) := by decide +kernel
theorem dX8_strength_0 : decode cX8_strength 0 = .ok (.aload_n 0, 1) := by decide +kernel
theorem dX8_strength_1 : decode cX8_strength 1 = .ok (.getfield 10, 3) := by decide +kernel
theorem dX8_strength_4 : decode cX8_strength 4 = .ok (.iload_n 1, 1) := by decide +kernel
theorem dX8_strength_5 : decode cX8_strength 5 = .ok (.invokevirtual 107, 3) := by decide +kernel
theorem dX8_strength_8 : decode cX8_strength 8 = .ok (.ifCond .eq 14, 3) := by decide +kernel
theorem dX8_strength_11 : decode cX8_strength 11 = .ok (.aload_n 0, 1) := by decide +kernel
theorem dX8_strength_12 : decode cX8_strength 12 = .ok (.getfield 10, 3) := by decide +kernel
theorem dX8_strength_15 : decode cX8_strength 15 = .ok (.iload_n 2, 1) := by decide +kernel
theorem dX8_strength_16 : decode cX8_strength 16 = .ok (.invokevirtual 150, 3) := by decide +kernel
theorem dX8_strength_19 : decode cX8_strength 19 = .ok (.ifCond .ne 5, 3) := by decide +kernel
theorem dX8_strength_22 : decode cX8_strength 22 = .ok (.iconst (-1), 1) := by decide +kernel
theorem dX8_strength_23 : decode cX8_strength 23 = .ok (.ireturn, 1) := by decide +kernel
theorem dX8_strength_24 : decode cX8_strength 24 = .ok (.iload_n 2, 1) := by decide +kernel
theorem dX8_strength_25 : decode cX8_strength 25 = .ok (.iload_n 1, 1) := by decide +kernel
theorem dX8_strength_26 : decode cX8_strength 26 = .ok (.if_icmp .eq 12, 3) := by decide +kernel
theorem dX8_strength_29 : decode cX8_strength 29 = .ok (.iload_n 2, 1) := by decide +kernel
theorem dX8_strength_30 : decode cX8_strength 30 = .ok (.iload_n 1, 1) := by decide +kernel
theorem dX8_strength_31 : decode cX8_strength 31 = .ok (.iconst 1, 1) := by decide +kernel
theorem dX8_strength_32 : decode cX8_strength 32 = .ok (.isub, 1) := by decide +kernel
theorem dX8_strength_33 : decode cX8_strength 33 = .ok (.if_icmp .eq 5, 3) := by decide +kernel
theorem dX8_strength_36 : decode cX8_strength 36 = .ok (.iconst (-1), 1) := by decide +kernel
theorem dX8_strength_37 : decode cX8_strength 37 = .ok (.ireturn, 1) := by decide +kernel
theorem dX8_strength_38 : decode cX8_strength 38 = .ok (.iload_n 3, 1) := by decide +kernel
theorem dX8_strength_39 : decode cX8_strength 39 = .ok (.ifCond .lt 21, 3) := by decide +kernel
theorem dX8_strength_42 : decode cX8_strength 42 = .ok (.iload_n 3, 1) := by decide +kernel
theorem dX8_strength_43 : decode cX8_strength 43 = .ok (.bipush 99, 2) := by decide +kernel
theorem dX8_strength_45 : decode cX8_strength 45 = .ok (.if_icmp .gt 15, 3) := by decide +kernel
theorem dX8_strength_48 : decode cX8_strength 48 = .ok (.aload_n 0, 1) := by decide +kernel
theorem dX8_strength_49 : decode cX8_strength 49 = .ok (.getfield 38, 3) := by decide +kernel
theorem dX8_strength_52 : decode cX8_strength 52 = .ok (.getfield 80, 3) := by decide +kernel
theorem dX8_strength_55 : decode cX8_strength 55 = .ok (.bipush 24, 2) := by decide +kernel
theorem dX8_strength_57 : decode cX8_strength 57 = .ok (.if_icmp .lt 5, 3) := by decide +kernel
theorem dX8_strength_60 : decode cX8_strength 60 = .ok (.iconst (-1), 1) := by decide +kernel
theorem dX8_strength_61 : decode cX8_strength 61 = .ok (.ireturn, 1) := by decide +kernel
theorem dX8_strength_62 : decode cX8_strength 62 = .ok (.aload_n 0, 1) := by decide +kernel
theorem dX8_strength_63 : decode cX8_strength 63 = .ok (.getfield 10, 3) := by decide +kernel
theorem dX8_strength_66 : decode cX8_strength 66 = .ok (.iload_n 1, 1) := by decide +kernel
theorem dX8_strength_67 : decode cX8_strength 67 = .ok (.aload_n 0, 1) := by decide +kernel
theorem dX8_strength_68 : decode cX8_strength 68 = .ok (.getfield 38, 3) := by decide +kernel
theorem dX8_strength_71 : decode cX8_strength 71 = .ok (.getfield 80, 3) := by decide +kernel
theorem dX8_strength_74 : decode cX8_strength 74 = .ok (.invokevirtual 162, 3) := by decide +kernel
theorem dX8_strength_77 : decode cX8_strength 77 = .ok (.ifCond .ne 5, 3) := by decide +kernel
theorem dX8_strength_80 : decode cX8_strength 80 = .ok (.iconst (-1), 1) := by decide +kernel
theorem dX8_strength_81 : decode cX8_strength 81 = .ok (.ireturn, 1) := by decide +kernel
theorem dX8_strength_82 : decode cX8_strength 82 = .ok (.aload_n 0, 1) := by decide +kernel
theorem dX8_strength_83 : decode cX8_strength 83 = .ok (.getfield 38, 3) := by decide +kernel
theorem dX8_strength_86 : decode cX8_strength 86 = .ok (.iload_n 1, 1) := by decide +kernel
theorem dX8_strength_87 : decode cX8_strength 87 = .ok (.iload_n 2, 1) := by decide +kernel
theorem dX8_strength_88 : decode cX8_strength 88 = .ok (.iload_n 3, 1) := by decide +kernel
theorem dX8_strength_89 : decode cX8_strength 89 = .ok (.invokevirtual 166, 3) := by decide +kernel
theorem dX8_strength_92 : decode cX8_strength 92 = .ok (.ireturn, 1) := by decide +kernel
theorem dX8_go_0 : decode cX8_go 0 = .ok (.iload_n 2, 1) := by decide +kernel
theorem dX8_go_1 : decode cX8_go 1 = .ok (.iconst 1, 1) := by decide +kernel
theorem dX8_go_2 : decode cX8_go 2 = .ok (.if_icmp .lt 9, 3) := by decide +kernel
theorem dX8_go_5 : decode cX8_go 5 = .ok (.iload_n 2, 1) := by decide +kernel
theorem dX8_go_6 : decode cX8_go 6 = .ok (.bipush 24, 2) := by decide +kernel
theorem dX8_go_8 : decode cX8_go 8 = .ok (.if_icmp .le 5, 3) := by decide +kernel
theorem dX8_go_11 : decode cX8_go 11 = .ok (.iconst (-1), 1) := by decide +kernel
theorem dX8_go_12 : decode cX8_go 12 = .ok (.ireturn, 1) := by decide +kernel
theorem dX8_go_13 : decode cX8_go 13 = .ok (.iload_n 2, 1) := by decide +kernel
theorem dX8_go_14 : decode cX8_go 14 = .ok (.bipush 24, 2) := by decide +kernel
theorem dX8_go_16 : decode cX8_go 16 = .ok (.aload_n 0, 1) := by decide +kernel
theorem dX8_go_17 : decode cX8_go 17 = .ok (.getfield 38, 3) := by decide +kernel
theorem dX8_go_20 : decode cX8_go 20 = .ok (.getfield 80, 3) := by decide +kernel
theorem dX8_go_23 : decode cX8_go 23 = .ok (.isub, 1) := by decide +kernel
theorem dX8_go_24 : decode cX8_go 24 = .ok (.if_icmp .le 6, 3) := by decide +kernel
theorem dX8_go_27 : decode cX8_go 27 = .ok (.bipush (-5), 2) := by decide +kernel
theorem dX8_go_29 : decode cX8_go 29 = .ok (.ireturn, 1) := by decide +kernel
theorem dX8_go_30 : decode cX8_go 30 = .ok (.aload_n 0, 1) := by decide +kernel
theorem dX8_go_31 : decode cX8_go 31 = .ok (.getfield 38, 3) := by decide +kernel
theorem dX8_go_34 : decode cX8_go 34 = .ok (.getfield 169, 3) := by decide +kernel
theorem dX8_go_37 : decode cX8_go 37 = .ok (.istore_n 3, 1) := by decide +kernel
theorem dX8_go_38 : decode cX8_go 38 = .ok (.aload_n 0, 1) := by decide +kernel
theorem dX8_go_39 : decode cX8_go 39 = .ok (.getfield 38, 3) := by decide +kernel
theorem dX8_go_42 : decode cX8_go 42 = .ok (.iload_n 1, 1) := by decide +kernel
theorem dX8_go_43 : decode cX8_go 43 = .ok (.putfield 172, 3) := by decide +kernel
theorem dX8_go_46 : decode cX8_go 46 = .ok (.iconst 0, 1) := by decide +kernel
theorem dX8_go_47 : decode cX8_go 47 = .ok (.istore 4, 2) := by decide +kernel
theorem dX8_go_49 : decode cX8_go 49 = .ok (.iload 4, 2) := by decide +kernel
theorem dX8_go_51 : decode cX8_go 51 = .ok (.iload_n 2, 1) := by decide +kernel
theorem dX8_go_52 : decode cX8_go 52 = .ok (.if_icmp .ge 28, 3) := by decide +kernel
theorem dX8_go_55 : decode cX8_go 55 = .ok (.aload_n 0, 1) := by decide +kernel
theorem dX8_go_56 : decode cX8_go 56 = .ok (.getfield 38, 3) := by decide +kernel
theorem dX8_go_59 : decode cX8_go 59 = .ok (.iconst 1, 1) := by decide +kernel
theorem dX8_go_60 : decode cX8_go 60 = .ok (.invokevirtual 175, 3) := by decide +kernel
theorem dX8_go_63 : decode cX8_go 63 = .ok (.aload_n 0, 1) := by decide +kernel
theorem dX8_go_64 : decode cX8_go 64 = .ok (.getfield 51, 3) := by decide +kernel
theorem dX8_go_67 : decode cX8_go 67 = .ok (.aload_n 0, 1) := by decide +kernel
theorem dX8_go_68 : decode cX8_go 68 = .ok (.getfield 38, 3) := by decide +kernel
theorem dX8_go_71 : decode cX8_go 71 = .ok (.invokevirtual 179, 3) := by decide +kernel
theorem dX8_go_74 : decode cX8_go 74 = .ok (.iinc 4 1, 3) := by decide +kernel
theorem dX8_go_77 : decode cX8_go 77 = .ok (.goto (-28), 3) := by decide +kernel
theorem dX8_go_80 : decode cX8_go 80 = .ok (.aload_n 0, 1) := by decide +kernel
theorem dX8_go_81 : decode cX8_go 81 = .ok (.getfield 38, 3) := by decide +kernel
theorem dX8_go_84 : decode cX8_go 84 = .ok (.getfield 169, 3) := by decide +kernel
theorem dX8_go_87 : decode cX8_go 87 = .ok (.iload_n 3, 1) := by decide +kernel
theorem dX8_go_88 : decode cX8_go 88 = .ok (.isub, 1) := by decide +kernel
theorem dX8_go_89 : decode cX8_go 89 = .ok (.ireturn, 1) := by decide +kernel
theorem dX8_led_0 : decode cX8_led 0 = .ok (.iload_n 1, 1) := by decide +kernel
theorem dX8_led_1 : decode cX8_led 1 = .ok (.ifCond .lt 31, 3) := by decide +kernel
theorem dX8_led_4 : decode cX8_led 4 = .ok (.iload_n 1, 1) := by decide +kernel
theorem dX8_led_5 : decode cX8_led 5 = .ok (.bipush 10, 2) := by decide +kernel
theorem dX8_led_7 : decode cX8_led 7 = .ok (.idiv, 1) := by decide +kernel
theorem dX8_led_8 : decode cX8_led 8 = .ok (.aload_n 0, 1) := by decide +kernel
theorem dX8_led_9 : decode cX8_led 9 = .ok (.getfield 38, 3) := by decide +kernel
theorem dX8_led_12 : decode cX8_led 12 = .ok (.getfield 80, 3) := by decide +kernel
theorem dX8_led_15 : decode cX8_led 15 = .ok (.if_icmp .ge 17, 3) := by decide +kernel
theorem dX8_led_18 : decode cX8_led 18 = .ok (.aload_n 0, 1) := by decide +kernel
theorem dX8_led_19 : decode cX8_led 19 = .ok (.getfield 10, 3) := by decide +kernel
theorem dX8_led_22 : decode cX8_led 22 = .ok (.iload_n 1, 1) := by decide +kernel
theorem dX8_led_23 : decode cX8_led 23 = .ok (.bipush 10, 2) := by decide +kernel
theorem dX8_led_25 : decode cX8_led 25 = .ok (.irem, 1) := by decide +kernel
theorem dX8_led_26 : decode cX8_led 26 = .ok (.invokevirtual 150, 3) := by decide +kernel
theorem dX8_led_29 : decode cX8_led 29 = .ok (.ifCond .ne 5, 3) := by decide +kernel
theorem dX8_led_32 : decode cX8_led 32 = .ok (.iconst (-1), 1) := by decide +kernel
theorem dX8_led_33 : decode cX8_led 33 = .ok (.ireturn, 1) := by decide +kernel
theorem dX8_led_34 : decode cX8_led 34 = .ok (.iload_n 2, 1) := by decide +kernel
theorem dX8_led_35 : decode cX8_led 35 = .ok (.tableswitch 73 0 2 #[25, 41, 57], 25) := by decide +kernel
theorem dX8_led_60 : decode cX8_led 60 = .ok (.aload_n 0, 1) := by decide +kernel
theorem dX8_led_61 : decode cX8_led 61 = .ok (.getfield 51, 3) := by decide +kernel
theorem dX8_led_64 : decode cX8_led 64 = .ok (.iload_n 1, 1) := by decide +kernel
theorem dX8_led_65 : decode cX8_led 65 = .ok (.bipush 10, 2) := by decide +kernel
theorem dX8_led_67 : decode cX8_led 67 = .ok (.idiv, 1) := by decide +kernel
theorem dX8_led_68 : decode cX8_led 68 = .ok (.iload_n 1, 1) := by decide +kernel
theorem dX8_led_69 : decode cX8_led 69 = .ok (.bipush 10, 2) := by decide +kernel
theorem dX8_led_71 : decode cX8_led 71 = .ok (.irem, 1) := by decide +kernel
theorem dX8_led_72 : decode cX8_led 72 = .ok (.invokevirtual 183, 3) := by decide +kernel
theorem dX8_led_75 : decode cX8_led 75 = .ok (.ireturn, 1) := by decide +kernel
theorem dX8_led_76 : decode cX8_led 76 = .ok (.aload_n 0, 1) := by decide +kernel
theorem dX8_led_77 : decode cX8_led 77 = .ok (.getfield 51, 3) := by decide +kernel
theorem dX8_led_80 : decode cX8_led 80 = .ok (.iload_n 1, 1) := by decide +kernel
theorem dX8_led_81 : decode cX8_led 81 = .ok (.bipush 10, 2) := by decide +kernel
theorem dX8_led_83 : decode cX8_led 83 = .ok (.idiv, 1) := by decide +kernel
theorem dX8_led_84 : decode cX8_led 84 = .ok (.iload_n 1, 1) := by decide +kernel
theorem dX8_led_85 : decode cX8_led 85 = .ok (.bipush 10, 2) := by decide +kernel
theorem dX8_led_87 : decode cX8_led 87 = .ok (.irem, 1) := by decide +kernel
theorem dX8_led_88 : decode cX8_led 88 = .ok (.invokevirtual 186, 3) := by decide +kernel
theorem dX8_led_91 : decode cX8_led 91 = .ok (.ireturn, 1) := by decide +kernel
theorem dX8_led_92 : decode cX8_led 92 = .ok (.aload_n 0, 1) := by decide +kernel
theorem dX8_led_93 : decode cX8_led 93 = .ok (.getfield 51, 3) := by decide +kernel
theorem dX8_led_96 : decode cX8_led 96 = .ok (.iload_n 1, 1) := by decide +kernel
theorem dX8_led_97 : decode cX8_led 97 = .ok (.bipush 10, 2) := by decide +kernel
theorem dX8_led_99 : decode cX8_led 99 = .ok (.idiv, 1) := by decide +kernel
theorem dX8_led_100 : decode cX8_led 100 = .ok (.iload_n 1, 1) := by decide +kernel
theorem dX8_led_101 : decode cX8_led 101 = .ok (.bipush 10, 2) := by decide +kernel
theorem dX8_led_103 : decode cX8_led 103 = .ok (.irem, 1) := by decide +kernel
theorem dX8_led_104 : decode cX8_led 104 = .ok (.invokevirtual 189, 3) := by decide +kernel
theorem dX8_led_107 : decode cX8_led 107 = .ok (.ireturn, 1) := by decide +kernel
theorem dX8_led_108 : decode cX8_led 108 = .ok (.iconst (-1), 1) := by decide +kernel
theorem dX8_led_109 : decode cX8_led 109 = .ok (.ireturn, 1) := by decide +kernel
theorem dX8_judge_0 : decode cX8_judge 0 = .ok (.iload_n 1, 1) := by decide +kernel
theorem dX8_judge_1 : decode cX8_judge 1 = .ok (.invokestatic 88, 3) := by decide +kernel
theorem dX8_judge_4 : decode cX8_judge 4 = .ok (.ifCond .eq 14, 3) := by decide +kernel
theorem dX8_judge_7 : decode cX8_judge 7 = .ok (.aload_n 0, 1) := by decide +kernel
theorem dX8_judge_8 : decode cX8_judge 8 = .ok (.getfield 10, 3) := by decide +kernel
theorem dX8_judge_11 : decode cX8_judge 11 = .ok (.iload_n 2, 1) := by decide +kernel
theorem dX8_judge_12 : decode cX8_judge 12 = .ok (.invokevirtual 150, 3) := by decide +kernel
theorem dX8_judge_15 : decode cX8_judge 15 = .ok (.ifCond .ne 5, 3) := by decide +kernel
theorem dX8_judge_18 : decode cX8_judge 18 = .ok (.iconst (-1), 1) := by decide +kernel
theorem dX8_judge_19 : decode cX8_judge 19 = .ok (.ireturn, 1) := by decide +kernel
theorem dX8_judge_20 : decode cX8_judge 20 = .ok (.aload_n 0, 1) := by decide +kernel
theorem dX8_judge_21 : decode cX8_judge 21 = .ok (.getfield 71, 3) := by decide +kernel
theorem dX8_judge_24 : decode cX8_judge 24 = .ok (.iload_n 1, 1) := by decide +kernel
theorem dX8_judge_25 : decode cX8_judge 25 = .ok (.aaload, 1) := by decide +kernel
theorem dX8_judge_26 : decode cX8_judge 26 = .ok (.astore_n 3, 1) := by decide +kernel
theorem dX8_judge_27 : decode cX8_judge 27 = .ok (.aload_n 3, 1) := by decide +kernel
theorem dX8_judge_28 : decode cX8_judge 28 = .ok (.getfield 92, 3) := by decide +kernel
theorem dX8_judge_31 : decode cX8_judge 31 = .ok (.bipush (-2), 2) := by decide +kernel
theorem dX8_judge_33 : decode cX8_judge 33 = .ok (.if_icmp .ne 6, 3) := by decide +kernel
theorem dX8_judge_36 : decode cX8_judge 36 = .ok (.bipush (-11), 2) := by decide +kernel
theorem dX8_judge_38 : decode cX8_judge 38 = .ok (.ireturn, 1) := by decide +kernel
theorem dX8_judge_39 : decode cX8_judge 39 = .ok (.aload_n 3, 1) := by decide +kernel
theorem dX8_judge_40 : decode cX8_judge 40 = .ok (.getfield 92, 3) := by decide +kernel
theorem dX8_judge_43 : decode cX8_judge 43 = .ok (.ifCond .eq 6, 3) := by decide +kernel
theorem dX8_judge_46 : decode cX8_judge 46 = .ok (.bipush (-12), 2) := by decide +kernel
theorem dX8_judge_48 : decode cX8_judge 48 = .ok (.ireturn, 1) := by decide +kernel
theorem dX8_judge_49 : decode cX8_judge 49 = .ok (.iconst 0, 1) := by decide +kernel
theorem dX8_judge_50 : decode cX8_judge 50 = .ok (.istore 4, 2) := by decide +kernel
theorem dX8_judge_52 : decode cX8_judge 52 = .ok (.iload 4, 2) := by decide +kernel
theorem dX8_judge_54 : decode cX8_judge 54 = .ok (.aload_n 0, 1) := by decide +kernel
theorem dX8_judge_55 : decode cX8_judge 55 = .ok (.getfield 38, 3) := by decide +kernel
theorem dX8_judge_58 : decode cX8_judge 58 = .ok (.getfield 80, 3) := by decide +kernel
theorem dX8_judge_61 : decode cX8_judge 61 = .ok (.if_icmp .ge 59, 3) := by decide +kernel
theorem dX8_judge_64 : decode cX8_judge 64 = .ok (.aload_n 3, 1) := by decide +kernel
theorem dX8_judge_65 : decode cX8_judge 65 = .ok (.iconst 2, 1) := by decide +kernel
theorem dX8_judge_66 : decode cX8_judge 66 = .ok (.iload 4, 2) := by decide +kernel
theorem dX8_judge_68 : decode cX8_judge 68 = .ok (.imul, 1) := by decide +kernel
theorem dX8_judge_69 : decode cX8_judge 69 = .ok (.aload_n 0, 1) := by decide +kernel
theorem dX8_judge_70 : decode cX8_judge 70 = .ok (.getfield 51, 3) := by decide +kernel
theorem dX8_judge_73 : decode cX8_judge 73 = .ok (.iload 4, 2) := by decide +kernel
theorem dX8_judge_75 : decode cX8_judge 75 = .ok (.iload_n 2, 1) := by decide +kernel
theorem dX8_judge_76 : decode cX8_judge 76 = .ok (.invokevirtual 183, 3) := by decide +kernel
theorem dX8_judge_79 : decode cX8_judge 79 = .ok (.invokestatic 192, 3) := by decide +kernel
theorem dX8_judge_82 : decode cX8_judge 82 = .ok (.ifCond .eq 6, 3) := by decide +kernel
theorem dX8_judge_85 : decode cX8_judge 85 = .ok (.iload 4, 2) := by decide +kernel
theorem dX8_judge_87 : decode cX8_judge 87 = .ok (.ireturn, 1) := by decide +kernel
theorem dX8_judge_88 : decode cX8_judge 88 = .ok (.aload_n 3, 1) := by decide +kernel
theorem dX8_judge_89 : decode cX8_judge 89 = .ok (.iconst 2, 1) := by decide +kernel
theorem dX8_judge_90 : decode cX8_judge 90 = .ok (.iload 4, 2) := by decide +kernel
theorem dX8_judge_92 : decode cX8_judge 92 = .ok (.imul, 1) := by decide +kernel
theorem dX8_judge_93 : decode cX8_judge 93 = .ok (.iconst 1, 1) := by decide +kernel
theorem dX8_judge_94 : decode cX8_judge 94 = .ok (.iadd, 1) := by decide +kernel
theorem dX8_judge_95 : decode cX8_judge 95 = .ok (.aload_n 0, 1) := by decide +kernel
theorem dX8_judge_96 : decode cX8_judge 96 = .ok (.getfield 51, 3) := by decide +kernel
theorem dX8_judge_99 : decode cX8_judge 99 = .ok (.iload 4, 2) := by decide +kernel
theorem dX8_judge_101 : decode cX8_judge 101 = .ok (.iload_n 2, 1) := by decide +kernel
theorem dX8_judge_102 : decode cX8_judge 102 = .ok (.invokevirtual 186, 3) := by decide +kernel
theorem dX8_judge_105 : decode cX8_judge 105 = .ok (.invokestatic 192, 3) := by decide +kernel
theorem dX8_judge_108 : decode cX8_judge 108 = .ok (.ifCond .eq 6, 3) := by decide +kernel
theorem dX8_judge_111 : decode cX8_judge 111 = .ok (.iload 4, 2) := by decide +kernel
theorem dX8_judge_113 : decode cX8_judge 113 = .ok (.ireturn, 1) := by decide +kernel
theorem dX8_judge_114 : decode cX8_judge 114 = .ok (.iinc 4 1, 3) := by decide +kernel
theorem dX8_judge_117 : decode cX8_judge 117 = .ok (.goto (-65), 3) := by decide +kernel
theorem dX8_judge_120 : decode cX8_judge 120 = .ok (.bipush (-2), 2) := by decide +kernel
theorem dX8_judge_122 : decode cX8_judge 122 = .ok (.ireturn, 1) := by decide +kernel
theorem dX8_match_0 : decode cX8_match 0 = .ok (.aload_n 0, 1) := by decide +kernel
theorem dX8_match_1 : decode cX8_match 1 = .ok (.getfield 38, 3) := by decide +kernel
theorem dX8_match_4 : decode cX8_match 4 = .ok (.getfield 80, 3) := by decide +kernel
theorem dX8_match_7 : decode cX8_match 7 = .ok (.ifCond .ne 6, 3) := by decide +kernel
theorem dX8_match_10 : decode cX8_match 10 = .ok (.bipush (-5), 2) := by decide +kernel
theorem dX8_match_12 : decode cX8_match 12 = .ok (.ireturn, 1) := by decide +kernel
theorem dX8_match_13 : decode cX8_match 13 = .ok (.aload_n 0, 1) := by decide +kernel
theorem dX8_match_14 : decode cX8_match 14 = .ok (.getfield 19, 3) := by decide +kernel
theorem dX8_match_17 : decode cX8_match 17 = .ok (.invokevirtual 196, 3) := by decide +kernel
theorem dX8_match_20 : decode cX8_match 20 = .ok (.ifCond .eq 8, 3) := by decide +kernel
theorem dX8_match_23 : decode cX8_match 23 = .ok (.bipush 100, 2) := by decide +kernel
theorem dX8_match_25 : decode cX8_match 25 = .ok (.goto 4, 3) := by decide +kernel
theorem dX8_match_28 : decode cX8_match 28 = .ok (.iconst 1, 1) := by decide +kernel
theorem dX8_match_29 : decode cX8_match 29 = .ok (.istore_n 1, 1) := by decide +kernel
theorem dX8_match_30 : decode cX8_match 30 = .ok (.iconst 0, 1) := by decide +kernel
theorem dX8_match_31 : decode cX8_match 31 = .ok (.istore_n 2, 1) := by decide +kernel
theorem dX8_match_32 : decode cX8_match 32 = .ok (.iload_n 2, 1) := by decide +kernel
theorem dX8_match_33 : decode cX8_match 33 = .ok (.iload_n 1, 1) := by decide +kernel
theorem dX8_match_34 : decode cX8_match 34 = .ok (.if_icmp .ge 19, 3) := by decide +kernel
theorem dX8_match_37 : decode cX8_match 37 = .ok (.aload_n 0, 1) := by decide +kernel
theorem dX8_match_38 : decode cX8_match 38 = .ok (.iload_n 2, 1) := by decide +kernel
theorem dX8_match_39 : decode cX8_match 39 = .ok (.invokevirtual 200, 3) := by decide +kernel
theorem dX8_match_42 : decode cX8_match 42 = .ok (.ifCond .eq 5, 3) := by decide +kernel
theorem dX8_match_45 : decode cX8_match 45 = .ok (.iload_n 2, 1) := by decide +kernel
theorem dX8_match_46 : decode cX8_match 46 = .ok (.ireturn, 1) := by decide +kernel
theorem dX8_match_47 : decode cX8_match 47 = .ok (.iinc 2 1, 3) := by decide +kernel
theorem dX8_match_50 : decode cX8_match 50 = .ok (.goto (-18), 3) := by decide +kernel
theorem dX8_match_53 : decode cX8_match 53 = .ok (.bipush (-2), 2) := by decide +kernel
theorem dX8_match_55 : decode cX8_match 55 = .ok (.ireturn, 1) := by decide +kernel
theorem dX8_then_0 : decode cX8_then 0 = .ok (.iload_n 3, 1) := by decide +kernel
theorem dX8_then_1 : decode cX8_then 1 = .ok (.iconst (-1), 1) := by decide +kernel
theorem dX8_then_2 : decode cX8_then 2 = .ok (.if_icmp .ne 12, 3) := by decide +kernel
theorem dX8_then_5 : decode cX8_then 5 = .ok (.iload 4, 2) := by decide +kernel
theorem dX8_then_7 : decode cX8_then 7 = .ok (.ifCond .ne 7, 3) := by decide +kernel
theorem dX8_then_10 : decode cX8_then 10 = .ok (.iconst 1, 1) := by decide +kernel
theorem dX8_then_11 : decode cX8_then 11 = .ok (.goto 4, 3) := by decide +kernel
theorem dX8_then_14 : decode cX8_then 14 = .ok (.iconst 0, 1) := by decide +kernel
theorem dX8_then_15 : decode cX8_then 15 = .ok (.istore 5, 2) := by decide +kernel
theorem dX8_then_17 : decode cX8_then 17 = .ok (.aload_n 0, 1) := by decide +kernel
theorem dX8_then_18 : decode cX8_then 18 = .ok (.getfield 10, 3) := by decide +kernel
theorem dX8_then_21 : decode cX8_then 21 = .ok (.iload_n 3, 1) := by decide +kernel
theorem dX8_then_22 : decode cX8_then 22 = .ok (.invokevirtual 107, 3) := by decide +kernel
theorem dX8_then_25 : decode cX8_then 25 = .ok (.ifCond .eq 18, 3) := by decide +kernel
theorem dX8_then_28 : decode cX8_then 28 = .ok (.iload 4, 2) := by decide +kernel
theorem dX8_then_30 : decode cX8_then 30 = .ok (.ifCond .eq 9, 3) := by decide +kernel
theorem dX8_then_33 : decode cX8_then 33 = .ok (.iload 4, 2) := by decide +kernel
theorem dX8_then_35 : decode cX8_then 35 = .ok (.iconst 1, 1) := by decide +kernel
theorem dX8_then_36 : decode cX8_then 36 = .ok (.if_icmp .ne 7, 3) := by decide +kernel
theorem dX8_then_39 : decode cX8_then 39 = .ok (.iconst 1, 1) := by decide +kernel
theorem dX8_then_40 : decode cX8_then 40 = .ok (.goto 4, 3) := by decide +kernel
theorem dX8_then_43 : decode cX8_then 43 = .ok (.iconst 0, 1) := by decide +kernel
theorem dX8_then_44 : decode cX8_then 44 = .ok (.istore 6, 2) := by decide +kernel
theorem dX8_then_46 : decode cX8_then 46 = .ok (.iload_n 2, 1) := by decide +kernel
theorem dX8_then_47 : decode cX8_then 47 = .ok (.ifCond .lt 19, 3) := by decide +kernel
theorem dX8_then_50 : decode cX8_then 50 = .ok (.iload_n 2, 1) := by decide +kernel
theorem dX8_then_51 : decode cX8_then 51 = .ok (.bipush 24, 2) := by decide +kernel
theorem dX8_then_53 : decode cX8_then 53 = .ok (.if_icmp .gt 13, 3) := by decide +kernel
theorem dX8_then_56 : decode cX8_then 56 = .ok (.iload 5, 2) := by decide +kernel
theorem dX8_then_58 : decode cX8_then 58 = .ok (.ifCond .ne 11, 3) := by decide +kernel
theorem dX8_then_61 : decode cX8_then 61 = .ok (.iload 6, 2) := by decide +kernel
theorem dX8_then_63 : decode cX8_then 63 = .ok (.ifCond .ne 6, 3) := by decide +kernel
theorem dX8_then_66 : decode cX8_then 66 = .ok (.ldc 124, 2) := by decide +kernel
theorem dX8_then_68 : decode cX8_then 68 = .ok (.ireturn, 1) := by decide +kernel
theorem dX8_then_69 : decode cX8_then 69 = .ok (.iload_n 2, 1) := by decide +kernel
theorem dX8_then_70 : decode cX8_then 70 = .ok (.bipush 24, 2) := by decide +kernel
theorem dX8_then_72 : decode cX8_then 72 = .ok (.aload_n 0, 1) := by decide +kernel
theorem dX8_then_73 : decode cX8_then 73 = .ok (.getfield 38, 3) := by decide +kernel
theorem dX8_then_76 : decode cX8_then 76 = .ok (.getfield 80, 3) := by decide +kernel
theorem dX8_then_79 : decode cX8_then 79 = .ok (.isub, 1) := by decide +kernel
theorem dX8_then_80 : decode cX8_then 80 = .ok (.if_icmp .le 6, 3) := by decide +kernel
theorem dX8_then_83 : decode cX8_then 83 = .ok (.bipush (-5), 2) := by decide +kernel
theorem dX8_then_85 : decode cX8_then 85 = .ok (.ireturn, 1) := by decide +kernel
theorem dX8_then_86 : decode cX8_then 86 = .ok (.aload_n 0, 1) := by decide +kernel
theorem dX8_then_87 : decode cX8_then 87 = .ok (.getfield 42, 3) := by decide +kernel
theorem dX8_then_90 : decode cX8_then 90 = .ok (.aload_n 0, 1) := by decide +kernel
theorem dX8_then_91 : decode cX8_then 91 = .ok (.getfield 38, 3) := by decide +kernel
theorem dX8_then_94 : decode cX8_then 94 = .ok (.iload_n 1, 1) := by decide +kernel
theorem dX8_then_95 : decode cX8_then 95 = .ok (.invokevirtual 203, 3) := by decide +kernel
theorem dX8_then_98 : decode cX8_then 98 = .ok (.aload_n 0, 1) := by decide +kernel
theorem dX8_then_99 : decode cX8_then 99 = .ok (.getfield 42, 3) := by decide +kernel
theorem dX8_then_102 : decode cX8_then 102 = .ok (.iload_n 2, 1) := by decide +kernel
theorem dX8_then_103 : decode cX8_then 103 = .ok (.invokevirtual 175, 3) := by decide +kernel
theorem dX8_then_106 : decode cX8_then 106 = .ok (.iload 5, 2) := by decide +kernel
theorem dX8_then_108 : decode cX8_then 108 = .ok (.ifCond .eq 11, 3) := by decide +kernel
theorem dX8_then_111 : decode cX8_then 111 = .ok (.aload_n 0, 1) := by decide +kernel
theorem dX8_then_112 : decode cX8_then 112 = .ok (.getfield 42, 3) := by decide +kernel
theorem dX8_then_115 : decode cX8_then 115 = .ok (.getfield 169, 3) := by decide +kernel
theorem dX8_then_118 : decode cX8_then 118 = .ok (.ireturn, 1) := by decide +kernel
theorem dX8_then_119 : decode cX8_then 119 = .ok (.iload 4, 2) := by decide +kernel
theorem dX8_then_121 : decode cX8_then 121 = .ok (.ifCond .ne 14, 3) := by decide +kernel
theorem dX8_then_124 : decode cX8_then 124 = .ok (.aload_n 0, 1) := by decide +kernel
theorem dX8_then_125 : decode cX8_then 125 = .ok (.getfield 42, 3) := by decide +kernel
theorem dX8_then_128 : decode cX8_then 128 = .ok (.iload_n 3, 1) := by decide +kernel
theorem dX8_then_129 : decode cX8_then 129 = .ok (.invokevirtual 128, 3) := by decide +kernel
theorem dX8_then_132 : decode cX8_then 132 = .ok (.goto 12, 3) := by decide +kernel
theorem dX8_then_135 : decode cX8_then 135 = .ok (.aload_n 0, 1) := by decide +kernel
theorem dX8_then_136 : decode cX8_then 136 = .ok (.getfield 42, 3) := by decide +kernel
theorem dX8_then_139 : decode cX8_then 139 = .ok (.getfield 132, 3) := by decide +kernel
theorem dX8_then_142 : decode cX8_then 142 = .ok (.iload_n 3, 1) := by decide +kernel
theorem dX8_then_143 : decode cX8_then 143 = .ok (.iaload, 1) := by decide +kernel
theorem dX8_then_144 : decode cX8_then 144 = .ok (.ireturn, 1) := by decide +kernel
theorem dX8_quiet_0 : decode cX8_quiet 0 = .ok (.aload_n 0, 1) := by decide +kernel
theorem dX8_quiet_1 : decode cX8_quiet 1 = .ok (.getfield 42, 3) := by decide +kernel
theorem dX8_quiet_4 : decode cX8_quiet 4 = .ok (.aload_n 0, 1) := by decide +kernel
theorem dX8_quiet_5 : decode cX8_quiet 5 = .ok (.getfield 38, 3) := by decide +kernel
theorem dX8_quiet_8 : decode cX8_quiet 8 = .ok (.iload_n 1, 1) := by decide +kernel
theorem dX8_quiet_9 : decode cX8_quiet 9 = .ok (.invokevirtual 203, 3) := by decide +kernel
theorem dX8_quiet_12 : decode cX8_quiet 12 = .ok (.aload_n 0, 1) := by decide +kernel
theorem dX8_quiet_13 : decode cX8_quiet 13 = .ok (.getfield 42, 3) := by decide +kernel
theorem dX8_quiet_16 : decode cX8_quiet 16 = .ok (.bipush 24, 2) := by decide +kernel
theorem dX8_quiet_18 : decode cX8_quiet 18 = .ok (.aload_n 0, 1) := by decide +kernel
theorem dX8_quiet_19 : decode cX8_quiet 19 = .ok (.getfield 38, 3) := by decide +kernel
theorem dX8_quiet_22 : decode cX8_quiet 22 = .ok (.getfield 80, 3) := by decide +kernel
theorem dX8_quiet_25 : decode cX8_quiet 25 = .ok (.isub, 1) := by decide +kernel
theorem dX8_quiet_26 : decode cX8_quiet 26 = .ok (.invokevirtual 175, 3) := by decide +kernel
theorem dX8_quiet_29 : decode cX8_quiet 29 = .ok (.aload_n 0, 1) := by decide +kernel
theorem dX8_quiet_30 : decode cX8_quiet 30 = .ok (.getfield 38, 3) := by decide +kernel
theorem dX8_quiet_33 : decode cX8_quiet 33 = .ok (.getfield 80, 3) := by decide +kernel
theorem dX8_quiet_36 : decode cX8_quiet 36 = .ok (.bipush 24, 2) := by decide +kernel
theorem dX8_quiet_38 : decode cX8_quiet 38 = .ok (.if_icmp .ge 19, 3) := by decide +kernel
theorem dX8_quiet_41 : decode cX8_quiet 41 = .ok (.aload_n 0, 1) := by decide +kernel
theorem dX8_quiet_42 : decode cX8_quiet 42 = .ok (.getfield 42, 3) := by decide +kernel
theorem dX8_quiet_45 : decode cX8_quiet 45 = .ok (.getfield 207, 3) := by decide +kernel
theorem dX8_quiet_48 : decode cX8_quiet 48 = .ok (.bipush 24, 2) := by decide +kernel
theorem dX8_quiet_50 : decode cX8_quiet 50 = .ok (.if_icmp .ne 7, 3) := by decide +kernel
theorem dX8_quiet_53 : decode cX8_quiet 53 = .ok (.iconst 1, 1) := by decide +kernel
theorem dX8_quiet_54 : decode cX8_quiet 54 = .ok (.goto 4, 3) := by decide +kernel
theorem dX8_quiet_57 : decode cX8_quiet 57 = .ok (.iconst 0, 1) := by decide +kernel
theorem dX8_quiet_58 : decode cX8_quiet 58 = .ok (.istore_n 2, 1) := by decide +kernel
theorem dX8_quiet_59 : decode cX8_quiet 59 = .ok (.iload_n 2, 1) := by decide +kernel
theorem dX8_quiet_60 : decode cX8_quiet 60 = .ok (.ifCond .eq 8, 3) := by decide +kernel
theorem dX8_quiet_63 : decode cX8_quiet 63 = .ok (.bipush (-2), 2) := by decide +kernel
theorem dX8_quiet_65 : decode cX8_quiet 65 = .ok (.goto 10, 3) := by decide +kernel
theorem dX8_quiet_68 : decode cX8_quiet 68 = .ok (.aload_n 0, 1) := by decide +kernel
theorem dX8_quiet_69 : decode cX8_quiet 69 = .ok (.getfield 42, 3) := by decide +kernel
theorem dX8_quiet_72 : decode cX8_quiet 72 = .ok (.getfield 207, 3) := by decide +kernel
theorem dX8_quiet_75 : decode cX8_quiet 75 = .ok (.ireturn, 1) := by decide +kernel
theorem dX8_seat_0 : decode cX8_seat 0 = .ok (.aload_n 0, 1) := by decide +kernel
theorem dX8_seat_1 : decode cX8_seat 1 = .ok (.getfield 10, 3) := by decide +kernel
theorem dX8_seat_4 : decode cX8_seat 4 = .ok (.iload_n 2, 1) := by decide +kernel
theorem dX8_seat_5 : decode cX8_seat 5 = .ok (.invokevirtual 107, 3) := by decide +kernel
theorem dX8_seat_8 : decode cX8_seat 8 = .ok (.ifCond .ne 5, 3) := by decide +kernel
theorem dX8_seat_11 : decode cX8_seat 11 = .ok (.iconst (-1), 1) := by decide +kernel
theorem dX8_seat_12 : decode cX8_seat 12 = .ok (.ireturn, 1) := by decide +kernel
theorem dX8_seat_13 : decode cX8_seat 13 = .ok (.iload_n 2, 1) := by decide +kernel
theorem dX8_seat_14 : decode cX8_seat 14 = .ok (.istore_n 3, 1) := by decide +kernel
theorem dX8_seat_15 : decode cX8_seat 15 = .ok (.aload_n 0, 1) := by decide +kernel
theorem dX8_seat_16 : decode cX8_seat 16 = .ok (.iload_n 1, 1) := by decide +kernel
theorem dX8_seat_17 : decode cX8_seat 17 = .ok (.iload_n 2, 1) := by decide +kernel
theorem dX8_seat_18 : decode cX8_seat 18 = .ok (.iload_n 2, 1) := by decide +kernel
theorem dX8_seat_19 : decode cX8_seat 19 = .ok (.invokevirtual 210, 3) := by decide +kernel
theorem dX8_seat_22 : decode cX8_seat 22 = .ok (.aload_n 0, 1) := by decide +kernel
theorem dX8_seat_23 : decode cX8_seat 23 = .ok (.getfield 42, 3) := by decide +kernel
theorem dX8_seat_26 : decode cX8_seat 26 = .ok (.getfield 132, 3) := by decide +kernel
theorem dX8_seat_29 : decode cX8_seat 29 = .ok (.iload_n 2, 1) := by decide +kernel
theorem dX8_seat_30 : decode cX8_seat 30 = .ok (.iaload, 1) := by decide +kernel
theorem dX8_seat_31 : decode cX8_seat 31 = .ok (.istore 4, 2) := by decide +kernel
theorem dX8_seat_33 : decode cX8_seat 33 = .ok (.iconst 0, 1) := by decide +kernel
theorem dX8_seat_34 : decode cX8_seat 34 = .ok (.istore 5, 2) := by decide +kernel
theorem dX8_seat_36 : decode cX8_seat 36 = .ok (.iload 5, 2) := by decide +kernel
theorem dX8_seat_38 : decode cX8_seat 38 = .ok (.aload_n 0, 1) := by decide +kernel
theorem dX8_seat_39 : decode cX8_seat 39 = .ok (.getfield 10, 3) := by decide +kernel
theorem dX8_seat_42 : decode cX8_seat 42 = .ok (.invokevirtual 213, 3) := by decide +kernel
theorem dX8_seat_45 : decode cX8_seat 45 = .ok (.if_icmp .ge 45, 3) := by decide +kernel
theorem dX8_seat_48 : decode cX8_seat 48 = .ok (.aload_n 0, 1) := by decide +kernel
theorem dX8_seat_49 : decode cX8_seat 49 = .ok (.iload_n 1, 1) := by decide +kernel
theorem dX8_seat_50 : decode cX8_seat 50 = .ok (.iload_n 2, 1) := by decide +kernel
theorem dX8_seat_51 : decode cX8_seat 51 = .ok (.iload 5, 2) := by decide +kernel
theorem dX8_seat_53 : decode cX8_seat 53 = .ok (.invokevirtual 210, 3) := by decide +kernel
theorem dX8_seat_56 : decode cX8_seat 56 = .ok (.aload_n 0, 1) := by decide +kernel
theorem dX8_seat_57 : decode cX8_seat 57 = .ok (.getfield 42, 3) := by decide +kernel
theorem dX8_seat_60 : decode cX8_seat 60 = .ok (.getfield 132, 3) := by decide +kernel
theorem dX8_seat_63 : decode cX8_seat 63 = .ok (.iload_n 2, 1) := by decide +kernel
theorem dX8_seat_64 : decode cX8_seat 64 = .ok (.iaload, 1) := by decide +kernel
theorem dX8_seat_65 : decode cX8_seat 65 = .ok (.iload 4, 2) := by decide +kernel
theorem dX8_seat_67 : decode cX8_seat 67 = .ok (.if_icmp .le 17, 3) := by decide +kernel
theorem dX8_seat_70 : decode cX8_seat 70 = .ok (.aload_n 0, 1) := by decide +kernel
theorem dX8_seat_71 : decode cX8_seat 71 = .ok (.getfield 42, 3) := by decide +kernel
theorem dX8_seat_74 : decode cX8_seat 74 = .ok (.getfield 132, 3) := by decide +kernel
theorem dX8_seat_77 : decode cX8_seat 77 = .ok (.iload_n 2, 1) := by decide +kernel
theorem dX8_seat_78 : decode cX8_seat 78 = .ok (.iaload, 1) := by decide +kernel
theorem dX8_seat_79 : decode cX8_seat 79 = .ok (.istore 4, 2) := by decide +kernel
theorem dX8_seat_81 : decode cX8_seat 81 = .ok (.iload 5, 2) := by decide +kernel
theorem dX8_seat_83 : decode cX8_seat 83 = .ok (.istore_n 3, 1) := by decide +kernel
theorem dX8_seat_84 : decode cX8_seat 84 = .ok (.iinc 5 1, 3) := by decide +kernel
theorem dX8_seat_87 : decode cX8_seat 87 = .ok (.goto (-51), 3) := by decide +kernel
theorem dX8_seat_90 : decode cX8_seat 90 = .ok (.iload_n 3, 1) := by decide +kernel
theorem dX8_seat_91 : decode cX8_seat 91 = .ok (.ireturn, 1) := by decide +kernel
theorem dX8_change_0 : decode cX8_change 0 = .ok (.bipush (-2), 2) := by decide +kernel
theorem dX8_change_2 : decode cX8_change 2 = .ok (.istore_n 2, 1) := by decide +kernel
theorem dX8_change_3 : decode cX8_change 3 = .ok (.aload_n 0, 1) := by decide +kernel
theorem dX8_change_4 : decode cX8_change 4 = .ok (.iload_n 1, 1) := by decide +kernel
theorem dX8_change_5 : decode cX8_change 5 = .ok (.iconst 0, 1) := by decide +kernel
theorem dX8_change_6 : decode cX8_change 6 = .ok (.iconst 0, 1) := by decide +kernel
theorem dX8_change_7 : decode cX8_change 7 = .ok (.invokevirtual 210, 3) := by decide +kernel
theorem dX8_change_10 : decode cX8_change 10 = .ok (.aload_n 0, 1) := by decide +kernel
theorem dX8_change_11 : decode cX8_change 11 = .ok (.getfield 42, 3) := by decide +kernel
theorem dX8_change_14 : decode cX8_change 14 = .ok (.invokevirtual 217, 3) := by decide +kernel
theorem dX8_change_17 : decode cX8_change 17 = .ok (.istore_n 3, 1) := by decide +kernel
theorem dX8_change_18 : decode cX8_change 18 = .ok (.iconst 0, 1) := by decide +kernel
theorem dX8_change_19 : decode cX8_change 19 = .ok (.istore 4, 2) := by decide +kernel
theorem dX8_change_21 : decode cX8_change 21 = .ok (.iload 4, 2) := by decide +kernel
theorem dX8_change_23 : decode cX8_change 23 = .ok (.aload_n 0, 1) := by decide +kernel
theorem dX8_change_24 : decode cX8_change 24 = .ok (.getfield 10, 3) := by decide +kernel
theorem dX8_change_27 : decode cX8_change 27 = .ok (.invokevirtual 213, 3) := by decide +kernel
theorem dX8_change_30 : decode cX8_change 30 = .ok (.if_icmp .ge 70, 3) := by decide +kernel
theorem dX8_change_33 : decode cX8_change 33 = .ok (.iload 4, 2) := by decide +kernel
theorem dX8_change_35 : decode cX8_change 35 = .ok (.iconst 1, 1) := by decide +kernel
theorem dX8_change_36 : decode cX8_change 36 = .ok (.iadd, 1) := by decide +kernel
theorem dX8_change_37 : decode cX8_change 37 = .ok (.istore 5, 2) := by decide +kernel
theorem dX8_change_39 : decode cX8_change 39 = .ok (.iload 5, 2) := by decide +kernel
theorem dX8_change_41 : decode cX8_change 41 = .ok (.aload_n 0, 1) := by decide +kernel
theorem dX8_change_42 : decode cX8_change 42 = .ok (.getfield 10, 3) := by decide +kernel
theorem dX8_change_45 : decode cX8_change 45 = .ok (.invokevirtual 213, 3) := by decide +kernel
theorem dX8_change_48 : decode cX8_change 48 = .ok (.if_icmp .ge 46, 3) := by decide +kernel
theorem dX8_change_51 : decode cX8_change 51 = .ok (.aload_n 0, 1) := by decide +kernel
theorem dX8_change_52 : decode cX8_change 52 = .ok (.iload_n 1, 1) := by decide +kernel
theorem dX8_change_53 : decode cX8_change 53 = .ok (.iload 4, 2) := by decide +kernel
theorem dX8_change_55 : decode cX8_change 55 = .ok (.iload 5, 2) := by decide +kernel
theorem dX8_change_57 : decode cX8_change 57 = .ok (.invokevirtual 210, 3) := by decide +kernel
theorem dX8_change_60 : decode cX8_change 60 = .ok (.aload_n 0, 1) := by decide +kernel
theorem dX8_change_61 : decode cX8_change 61 = .ok (.getfield 42, 3) := by decide +kernel
theorem dX8_change_64 : decode cX8_change 64 = .ok (.invokevirtual 217, 3) := by decide +kernel
theorem dX8_change_67 : decode cX8_change 67 = .ok (.iload_n 3, 1) := by decide +kernel
theorem dX8_change_68 : decode cX8_change 68 = .ok (.if_icmp .le 20, 3) := by decide +kernel
theorem dX8_change_71 : decode cX8_change 71 = .ok (.aload_n 0, 1) := by decide +kernel
theorem dX8_change_72 : decode cX8_change 72 = .ok (.getfield 42, 3) := by decide +kernel
theorem dX8_change_75 : decode cX8_change 75 = .ok (.invokevirtual 217, 3) := by decide +kernel
theorem dX8_change_78 : decode cX8_change 78 = .ok (.istore_n 3, 1) := by decide +kernel
theorem dX8_change_79 : decode cX8_change 79 = .ok (.bipush 10, 2) := by decide +kernel
theorem dX8_change_81 : decode cX8_change 81 = .ok (.iload 4, 2) := by decide +kernel
theorem dX8_change_83 : decode cX8_change 83 = .ok (.imul, 1) := by decide +kernel
theorem dX8_change_84 : decode cX8_change 84 = .ok (.iload 5, 2) := by decide +kernel
theorem dX8_change_86 : decode cX8_change 86 = .ok (.iadd, 1) := by decide +kernel
theorem dX8_change_87 : decode cX8_change 87 = .ok (.istore_n 2, 1) := by decide +kernel
theorem dX8_change_88 : decode cX8_change 88 = .ok (.iinc 5 1, 3) := by decide +kernel
theorem dX8_change_91 : decode cX8_change 91 = .ok (.goto (-52), 3) := by decide +kernel
theorem dX8_change_94 : decode cX8_change 94 = .ok (.iinc 4 1, 3) := by decide +kernel
theorem dX8_change_97 : decode cX8_change 97 = .ok (.goto (-76), 3) := by decide +kernel
theorem dX8_change_100 : decode cX8_change 100 = .ok (.iload_n 2, 1) := by decide +kernel
theorem dX8_change_101 : decode cX8_change 101 = .ok (.ireturn, 1) := by decide +kernel
theorem dX8_wider_0 : decode cX8_wider 0 = .ok (.aload_n 0, 1) := by decide +kernel
theorem dX8_wider_1 : decode cX8_wider 1 = .ok (.getfield 10, 3) := by decide +kernel
theorem dX8_wider_4 : decode cX8_wider 4 = .ok (.iload_n 2, 1) := by decide +kernel
theorem dX8_wider_5 : decode cX8_wider 5 = .ok (.invokevirtual 150, 3) := by decide +kernel
theorem dX8_wider_8 : decode cX8_wider 8 = .ok (.ifCond .ne 5, 3) := by decide +kernel
theorem dX8_wider_11 : decode cX8_wider 11 = .ok (.iconst (-1), 1) := by decide +kernel
theorem dX8_wider_12 : decode cX8_wider 12 = .ok (.ireturn, 1) := by decide +kernel
theorem dX8_wider_13 : decode cX8_wider 13 = .ok (.iconst 0, 1) := by decide +kernel
theorem dX8_wider_14 : decode cX8_wider 14 = .ok (.istore_n 3, 1) := by decide +kernel
theorem dX8_wider_15 : decode cX8_wider 15 = .ok (.iload_n 3, 1) := by decide +kernel
theorem dX8_wider_16 : decode cX8_wider 16 = .ok (.bipush 9, 2) := by decide +kernel
theorem dX8_wider_18 : decode cX8_wider 18 = .ok (.if_icmp .gt 21, 3) := by decide +kernel
theorem dX8_wider_21 : decode cX8_wider 21 = .ok (.aload_n 0, 1) := by decide +kernel
theorem dX8_wider_22 : decode cX8_wider 22 = .ok (.iload_n 1, 1) := by decide +kernel
theorem dX8_wider_23 : decode cX8_wider 23 = .ok (.iload_n 2, 1) := by decide +kernel
theorem dX8_wider_24 : decode cX8_wider 24 = .ok (.iload_n 3, 1) := by decide +kernel
theorem dX8_wider_25 : decode cX8_wider 25 = .ok (.invokevirtual 220, 3) := by decide +kernel
theorem dX8_wider_28 : decode cX8_wider 28 = .ok (.ifCond .eq 5, 3) := by decide +kernel
theorem dX8_wider_31 : decode cX8_wider 31 = .ok (.iload_n 3, 1) := by decide +kernel
theorem dX8_wider_32 : decode cX8_wider 32 = .ok (.ireturn, 1) := by decide +kernel
theorem dX8_wider_33 : decode cX8_wider 33 = .ok (.iinc 3 1, 3) := by decide +kernel
theorem dX8_wider_36 : decode cX8_wider 36 = .ok (.goto (-21), 3) := by decide +kernel
theorem dX8_wider_39 : decode cX8_wider 39 = .ok (.bipush (-2), 2) := by decide +kernel
theorem dX8_wider_41 : decode cX8_wider 41 = .ok (.ireturn, 1) := by decide +kernel
theorem dX8_both_0 : decode cX8_both 0 = .ok (.aload_n 0, 1) := by decide +kernel
theorem dX8_both_1 : decode cX8_both 1 = .ok (.getfield 10, 3) := by decide +kernel
theorem dX8_both_4 : decode cX8_both 4 = .ok (.iload_n 1, 1) := by decide +kernel
theorem dX8_both_5 : decode cX8_both 5 = .ok (.invokevirtual 150, 3) := by decide +kernel
theorem dX8_both_8 : decode cX8_both 8 = .ok (.ifCond .eq 12, 3) := by decide +kernel
theorem dX8_both_11 : decode cX8_both 11 = .ok (.iload_n 2, 1) := by decide +kernel
theorem dX8_both_12 : decode cX8_both 12 = .ok (.ifCond .lt 8, 3) := by decide +kernel
theorem dX8_both_15 : decode cX8_both 15 = .ok (.iload_n 2, 1) := by decide +kernel
theorem dX8_both_16 : decode cX8_both 16 = .ok (.iconst 1, 1) := by decide +kernel
theorem dX8_both_17 : decode cX8_both 17 = .ok (.if_icmp .le 5, 3) := by decide +kernel
theorem dX8_both_20 : decode cX8_both 20 = .ok (.iconst (-1), 1) := by decide +kernel
theorem dX8_both_21 : decode cX8_both 21 = .ok (.ireturn, 1) := by decide +kernel
theorem dX8_both_22 : decode cX8_both 22 = .ok (.iconst 0, 1) := by decide +kernel
theorem dX8_both_23 : decode cX8_both 23 = .ok (.istore_n 3, 1) := by decide +kernel
theorem dX8_both_24 : decode cX8_both 24 = .ok (.iconst 1, 1) := by decide +kernel
theorem dX8_both_25 : decode cX8_both 25 = .ok (.istore 4, 2) := by decide +kernel
theorem dX8_both_27 : decode cX8_both 27 = .ok (.iload 4, 2) := by decide +kernel
theorem dX8_both_29 : decode cX8_both 29 = .ok (.aload_n 0, 1) := by decide +kernel
theorem dX8_both_30 : decode cX8_both 30 = .ok (.getfield 38, 3) := by decide +kernel
theorem dX8_both_33 : decode cX8_both 33 = .ok (.getfield 99, 3) := by decide +kernel
theorem dX8_both_36 : decode cX8_both 36 = .ok (.iload_n 1, 1) := by decide +kernel
theorem dX8_both_37 : decode cX8_both 37 = .ok (.iaload, 1) := by decide +kernel
theorem dX8_both_38 : decode cX8_both 38 = .ok (.if_icmp .gt 23, 3) := by decide +kernel
theorem dX8_both_41 : decode cX8_both 41 = .ok (.aload_n 0, 1) := by decide +kernel
theorem dX8_both_42 : decode cX8_both 42 = .ok (.iload_n 1, 1) := by decide +kernel
theorem dX8_both_43 : decode cX8_both 43 = .ok (.iload 4, 2) := by decide +kernel
theorem dX8_both_45 : decode cX8_both 45 = .ok (.iload_n 3, 1) := by decide +kernel
theorem dX8_both_46 : decode cX8_both 46 = .ok (.invokevirtual 224, 3) := by decide +kernel
theorem dX8_both_49 : decode cX8_both 49 = .ok (.ifCond .eq 6, 3) := by decide +kernel
theorem dX8_both_52 : decode cX8_both 52 = .ok (.iload 4, 2) := by decide +kernel
theorem dX8_both_54 : decode cX8_both 54 = .ok (.istore_n 3, 1) := by decide +kernel
theorem dX8_both_55 : decode cX8_both 55 = .ok (.iinc 4 1, 3) := by decide +kernel
theorem dX8_both_58 : decode cX8_both 58 = .ok (.goto (-31), 3) := by decide +kernel
theorem dX8_both_61 : decode cX8_both 61 = .ok (.iload_n 2, 1) := by decide +kernel
theorem dX8_both_62 : decode cX8_both 62 = .ok (.ifCond .ne 7, 3) := by decide +kernel
theorem dX8_both_65 : decode cX8_both 65 = .ok (.iload_n 3, 1) := by decide +kernel
theorem dX8_both_66 : decode cX8_both 66 = .ok (.goto 16, 3) := by decide +kernel
theorem dX8_both_69 : decode cX8_both 69 = .ok (.aload_n 0, 1) := by decide +kernel
theorem dX8_both_70 : decode cX8_both 70 = .ok (.iload_n 1, 1) := by decide +kernel
theorem dX8_both_71 : decode cX8_both 71 = .ok (.iload_n 3, 1) := by decide +kernel
theorem dX8_both_72 : decode cX8_both 72 = .ok (.invokevirtual 227, 3) := by decide +kernel
theorem dX8_both_75 : decode cX8_both 75 = .ok (.aload_n 0, 1) := by decide +kernel
theorem dX8_both_76 : decode cX8_both 76 = .ok (.iload_n 1, 1) := by decide +kernel
theorem dX8_both_77 : decode cX8_both 77 = .ok (.iload_n 3, 1) := by decide +kernel
theorem dX8_both_78 : decode cX8_both 78 = .ok (.invokevirtual 230, 3) := by decide +kernel
theorem dX8_both_81 : decode cX8_both 81 = .ok (.iadd, 1) := by decide +kernel
theorem dX8_both_82 : decode cX8_both 82 = .ok (.ireturn, 1) := by decide +kernel
theorem dX8_deals_0 : decode cX8_deals 0 = .ok (.aload_n 0, 1) := by decide +kernel
theorem dX8_deals_1 : decode cX8_deals 1 = .ok (.getfield 10, 3) := by decide +kernel
theorem dX8_deals_4 : decode cX8_deals 4 = .ok (.iload_n 1, 1) := by decide +kernel
theorem dX8_deals_5 : decode cX8_deals 5 = .ok (.invokevirtual 150, 3) := by decide +kernel
theorem dX8_deals_8 : decode cX8_deals 8 = .ok (.ifCond .eq 12, 3) := by decide +kernel
theorem dX8_deals_11 : decode cX8_deals 11 = .ok (.iload_n 2, 1) := by decide +kernel
theorem dX8_deals_12 : decode cX8_deals 12 = .ok (.ifCond .lt 8, 3) := by decide +kernel
theorem dX8_deals_15 : decode cX8_deals 15 = .ok (.iload_n 2, 1) := by decide +kernel
theorem dX8_deals_16 : decode cX8_deals 16 = .ok (.iconst 2, 1) := by decide +kernel
theorem dX8_deals_17 : decode cX8_deals 17 = .ok (.if_icmp .le 6, 3) := by decide +kernel
theorem dX8_deals_20 : decode cX8_deals 20 = .ok (.ldc 124, 2) := by decide +kernel
theorem dX8_deals_22 : decode cX8_deals 22 = .ok (.ireturn, 1) := by decide +kernel
theorem dX8_deals_23 : decode cX8_deals 23 = .ok (.aload_n 0, 1) := by decide +kernel
theorem dX8_deals_24 : decode cX8_deals 24 = .ok (.iload_n 1, 1) := by decide +kernel
theorem dX8_deals_25 : decode cX8_deals 25 = .ok (.invokevirtual 233, 3) := by decide +kernel
theorem dX8_deals_28 : decode cX8_deals 28 = .ok (.istore_n 3, 1) := by decide +kernel
theorem dX8_deals_29 : decode cX8_deals 29 = .ok (.iload_n 3, 1) := by decide +kernel
theorem dX8_deals_30 : decode cX8_deals 30 = .ok (.ifCond .le 7, 3) := by decide +kernel
theorem dX8_deals_33 : decode cX8_deals 33 = .ok (.iload_n 1, 1) := by decide +kernel
theorem dX8_deals_34 : decode cX8_deals 34 = .ok (.goto 6, 3) := by decide +kernel
theorem dX8_deals_37 : decode cX8_deals 37 = .ok (.iload_n 1, 1) := by decide +kernel
theorem dX8_deals_38 : decode cX8_deals 38 = .ok (.iconst 1, 1) := by decide +kernel
theorem dX8_deals_39 : decode cX8_deals 39 = .ok (.iadd, 1) := by decide +kernel
theorem dX8_deals_40 : decode cX8_deals 40 = .ok (.istore 4, 2) := by decide +kernel
theorem dX8_deals_42 : decode cX8_deals 42 = .ok (.iload_n 3, 1) := by decide +kernel
theorem dX8_deals_43 : decode cX8_deals 43 = .ok (.ifCond .le 9, 3) := by decide +kernel
theorem dX8_deals_46 : decode cX8_deals 46 = .ok (.iload_n 1, 1) := by decide +kernel
theorem dX8_deals_47 : decode cX8_deals 47 = .ok (.iconst 1, 1) := by decide +kernel
theorem dX8_deals_48 : decode cX8_deals 48 = .ok (.iadd, 1) := by decide +kernel
theorem dX8_deals_49 : decode cX8_deals 49 = .ok (.goto 4, 3) := by decide +kernel
theorem dX8_deals_52 : decode cX8_deals 52 = .ok (.iload_n 1, 1) := by decide +kernel
theorem dX8_deals_53 : decode cX8_deals 53 = .ok (.istore 5, 2) := by decide +kernel
theorem dX8_deals_55 : decode cX8_deals 55 = .ok (.aload_n 0, 1) := by decide +kernel
theorem dX8_deals_56 : decode cX8_deals 56 = .ok (.getfield 10, 3) := by decide +kernel
theorem dX8_deals_59 : decode cX8_deals 59 = .ok (.iload 4, 2) := by decide +kernel
theorem dX8_deals_61 : decode cX8_deals 61 = .ok (.iconst 3, 1) := by decide +kernel
theorem dX8_deals_62 : decode cX8_deals 62 = .ok (.invokevirtual 114, 3) := by decide +kernel
theorem dX8_deals_65 : decode cX8_deals 65 = .ok (.istore 6, 2) := by decide +kernel
theorem dX8_deals_67 : decode cX8_deals 67 = .ok (.aload_n 0, 1) := by decide +kernel
theorem dX8_deals_68 : decode cX8_deals 68 = .ok (.getfield 10, 3) := by decide +kernel
theorem dX8_deals_71 : decode cX8_deals 71 = .ok (.iload 5, 2) := by decide +kernel
theorem dX8_deals_73 : decode cX8_deals 73 = .ok (.iconst 4, 1) := by decide +kernel
theorem dX8_deals_74 : decode cX8_deals 74 = .ok (.invokevirtual 114, 3) := by decide +kernel
theorem dX8_deals_77 : decode cX8_deals 77 = .ok (.istore 7, 2) := by decide +kernel
theorem dX8_deals_79 : decode cX8_deals 79 = .ok (.iload_n 2, 1) := by decide +kernel
theorem dX8_deals_80 : decode cX8_deals 80 = .ok (.lookupswitch 44 #[(0, 28), (1, 39)], 28) := by decide +kernel
theorem dX8_deals_108 : decode cX8_deals 108 = .ok (.iload_n 3, 1) := by decide +kernel
theorem dX8_deals_109 : decode cX8_deals 109 = .ok (.invokestatic 236, 3) := by decide +kernel
theorem dX8_deals_112 : decode cX8_deals 112 = .ok (.iload 7, 2) := by decide +kernel
theorem dX8_deals_114 : decode cX8_deals 114 = .ok (.iload 6, 2) := by decide +kernel
theorem dX8_deals_116 : decode cX8_deals 116 = .ok (.isub, 1) := by decide +kernel
theorem dX8_deals_117 : decode cX8_deals 117 = .ok (.imul, 1) := by decide +kernel
theorem dX8_deals_118 : decode cX8_deals 118 = .ok (.ireturn, 1) := by decide +kernel
theorem dX8_deals_119 : decode cX8_deals 119 = .ok (.iload_n 3, 1) := by decide +kernel
theorem dX8_deals_120 : decode cX8_deals 120 = .ok (.invokestatic 236, 3) := by decide +kernel
theorem dX8_deals_123 : decode cX8_deals 123 = .ok (.ireturn, 1) := by decide +kernel
theorem dX8_deals_124 : decode cX8_deals 124 = .ok (.iload_n 3, 1) := by decide +kernel
theorem dX8_deals_125 : decode cX8_deals 125 = .ok (.iload 7, 2) := by decide +kernel
theorem dX8_deals_127 : decode cX8_deals 127 = .ok (.iload 6, 2) := by decide +kernel
theorem dX8_deals_129 : decode cX8_deals 129 = .ok (.iadd, 1) := by decide +kernel
theorem dX8_deals_130 : decode cX8_deals 130 = .ok (.iconst 2, 1) := by decide +kernel
theorem dX8_deals_131 : decode cX8_deals 131 = .ok (.idiv, 1) := by decide +kernel
theorem dX8_deals_132 : decode cX8_deals 132 = .ok (.imul, 1) := by decide +kernel
theorem dX8_deals_133 : decode cX8_deals 133 = .ok (.ireturn, 1) := by decide +kernel
theorem dX8_sell_0 : decode cX8_sell 0 = .ok (.aload_n 0, 1) := by decide +kernel
theorem dX8_sell_1 : decode cX8_sell 1 = .ok (.getfield 10, 3) := by decide +kernel
theorem dX8_sell_4 : decode cX8_sell 4 = .ok (.iload_n 1, 1) := by decide +kernel
theorem dX8_sell_5 : decode cX8_sell 5 = .ok (.invokevirtual 150, 3) := by decide +kernel
theorem dX8_sell_8 : decode cX8_sell 8 = .ok (.ifCond .ne 5, 3) := by decide +kernel
theorem dX8_sell_11 : decode cX8_sell 11 = .ok (.iconst (-1), 1) := by decide +kernel
theorem dX8_sell_12 : decode cX8_sell 12 = .ok (.ireturn, 1) := by decide +kernel
theorem dX8_sell_13 : decode cX8_sell 13 = .ok (.aload_n 0, 1) := by decide +kernel
theorem dX8_sell_14 : decode cX8_sell 14 = .ok (.iload_n 1, 1) := by decide +kernel
theorem dX8_sell_15 : decode cX8_sell 15 = .ok (.invokevirtual 233, 3) := by decide +kernel
theorem dX8_sell_18 : decode cX8_sell 18 = .ok (.istore_n 2, 1) := by decide +kernel
theorem dX8_sell_19 : decode cX8_sell 19 = .ok (.aload_n 0, 1) := by decide +kernel
theorem dX8_sell_20 : decode cX8_sell 20 = .ok (.getfield 38, 3) := by decide +kernel
theorem dX8_sell_23 : decode cX8_sell 23 = .ok (.getfield 153, 3) := by decide +kernel
theorem dX8_sell_26 : decode cX8_sell 26 = .ok (.iload_n 1, 1) := by decide +kernel
theorem dX8_sell_27 : decode cX8_sell 27 = .ok (.dup2, 1) := by decide +kernel
theorem dX8_sell_28 : decode cX8_sell 28 = .ok (.iaload, 1) := by decide +kernel
theorem dX8_sell_29 : decode cX8_sell 29 = .ok (.iload_n 2, 1) := by decide +kernel
theorem dX8_sell_30 : decode cX8_sell 30 = .ok (.isub, 1) := by decide +kernel
theorem dX8_sell_31 : decode cX8_sell 31 = .ok (.iastore, 1) := by decide +kernel
theorem dX8_sell_32 : decode cX8_sell 32 = .ok (.aload_n 0, 1) := by decide +kernel
theorem dX8_sell_33 : decode cX8_sell 33 = .ok (.getfield 38, 3) := by decide +kernel
theorem dX8_sell_36 : decode cX8_sell 36 = .ok (.getfield 156, 3) := by decide +kernel
theorem dX8_sell_39 : decode cX8_sell 39 = .ok (.iload_n 1, 1) := by decide +kernel
theorem dX8_sell_40 : decode cX8_sell 40 = .ok (.dup2, 1) := by decide +kernel
theorem dX8_sell_41 : decode cX8_sell 41 = .ok (.iaload, 1) := by decide +kernel
theorem dX8_sell_42 : decode cX8_sell 42 = .ok (.iload_n 2, 1) := by decide +kernel
theorem dX8_sell_43 : decode cX8_sell 43 = .ok (.iadd, 1) := by decide +kernel
theorem dX8_sell_44 : decode cX8_sell 44 = .ok (.iastore, 1) := by decide +kernel
theorem dX8_sell_45 : decode cX8_sell 45 = .ok (.iload_n 2, 1) := by decide +kernel
theorem dX8_sell_46 : decode cX8_sell 46 = .ok (.invokestatic 236, 3) := by decide +kernel
theorem dX8_sell_49 : decode cX8_sell 49 = .ok (.ireturn, 1) := by decide +kernel
theorem dX8_image_0 : decode cX8_image 0 = .ok (.aload_n 0, 1) := by decide +kernel
theorem dX8_image_1 : decode cX8_image 1 = .ok (.getfield 45, 3) := by decide +kernel
theorem dX8_image_4 : decode cX8_image 4 = .ok (.aload_n 0, 1) := by decide +kernel
theorem dX8_image_5 : decode cX8_image 5 = .ok (.getfield 38, 3) := by decide +kernel
theorem dX8_image_8 : decode cX8_image 8 = .ok (.invokevirtual 241, 3) := by decide +kernel
theorem dX8_image_11 : decode cX8_image 11 = .ok (.aload_n 0, 1) := by decide +kernel
theorem dX8_image_12 : decode cX8_image 12 = .ok (.iconst 1, 1) := by decide +kernel
theorem dX8_image_13 : decode cX8_image 13 = .ok (.putfield 75, 3) := by decide +kernel
theorem dX8_image_16 : decode cX8_image 16 = .ok (.aload_n 0, 1) := by decide +kernel
theorem dX8_image_17 : decode cX8_image 17 = .ok (.getfield 38, 3) := by decide +kernel
theorem dX8_image_20 : decode cX8_image 20 = .ok (.getfield 80, 3) := by decide +kernel
theorem dX8_image_23 : decode cX8_image 23 = .ok (.ireturn, 1) := by decide +kernel
theorem dX8_back_0 : decode cX8_back 0 = .ok (.aload_n 0, 1) := by decide +kernel
theorem dX8_back_1 : decode cX8_back 1 = .ok (.getfield 75, 3) := by decide +kernel
theorem dX8_back_4 : decode cX8_back 4 = .ok (.ifCond .ne 6, 3) := by decide +kernel
theorem dX8_back_7 : decode cX8_back 7 = .ok (.bipush (-5), 2) := by decide +kernel
theorem dX8_back_9 : decode cX8_back 9 = .ok (.ireturn, 1) := by decide +kernel
theorem dX8_back_10 : decode cX8_back 10 = .ok (.aload_n 0, 1) := by decide +kernel
theorem dX8_back_11 : decode cX8_back 11 = .ok (.getfield 38, 3) := by decide +kernel
theorem dX8_back_14 : decode cX8_back 14 = .ok (.aload_n 0, 1) := by decide +kernel
theorem dX8_back_15 : decode cX8_back 15 = .ok (.getfield 45, 3) := by decide +kernel
theorem dX8_back_18 : decode cX8_back 18 = .ok (.invokevirtual 241, 3) := by decide +kernel
theorem dX8_back_21 : decode cX8_back 21 = .ok (.iconst 0, 1) := by decide +kernel
theorem dX8_back_22 : decode cX8_back 22 = .ok (.istore_n 1, 1) := by decide +kernel
theorem dX8_back_23 : decode cX8_back 23 = .ok (.iload_n 1, 1) := by decide +kernel
theorem dX8_back_24 : decode cX8_back 24 = .ok (.bipush 7, 2) := by decide +kernel
theorem dX8_back_26 : decode cX8_back 26 = .ok (.if_icmp .ge 26, 3) := by decide +kernel
theorem dX8_back_29 : decode cX8_back 29 = .ok (.aload_n 0, 1) := by decide +kernel
theorem dX8_back_30 : decode cX8_back 30 = .ok (.getfield 38, 3) := by decide +kernel
theorem dX8_back_33 : decode cX8_back 33 = .ok (.iload_n 1, 1) := by decide +kernel
theorem dX8_back_34 : decode cX8_back 34 = .ok (.aload_n 0, 1) := by decide +kernel
theorem dX8_back_35 : decode cX8_back 35 = .ok (.getfield 38, 3) := by decide +kernel
theorem dX8_back_38 : decode cX8_back 38 = .ok (.getfield 99, 3) := by decide +kernel
theorem dX8_back_41 : decode cX8_back 41 = .ok (.iload_n 1, 1) := by decide +kernel
theorem dX8_back_42 : decode cX8_back 42 = .ok (.iaload, 1) := by decide +kernel
theorem dX8_back_43 : decode cX8_back 43 = .ok (.invokevirtual 103, 3) := by decide +kernel
theorem dX8_back_46 : decode cX8_back 46 = .ok (.iinc 1 1, 3) := by decide +kernel
theorem dX8_back_49 : decode cX8_back 49 = .ok (.goto (-26), 3) := by decide +kernel
theorem dX8_back_52 : decode cX8_back 52 = .ok (.aload_n 0, 1) := by decide +kernel
theorem dX8_back_53 : decode cX8_back 53 = .ok (.getfield 38, 3) := by decide +kernel
theorem dX8_back_56 : decode cX8_back 56 = .ok (.getfield 80, 3) := by decide +kernel
theorem dX8_back_59 : decode cX8_back 59 = .ok (.ireturn, 1) := by decide +kernel
theorem dX8_undo_0 : decode cX8_undo 0 = .ok (.aload_n 0, 1) := by decide +kernel
theorem dX8_undo_1 : decode cX8_undo 1 = .ok (.getfield 58, 3) := by decide +kernel
theorem dX8_undo_4 : decode cX8_undo 4 = .ok (.aload_n 0, 1) := by decide +kernel
theorem dX8_undo_5 : decode cX8_undo 5 = .ok (.getfield 10, 3) := by decide +kernel
theorem dX8_undo_8 : decode cX8_undo 8 = .ok (.invokevirtual 244, 3) := by decide +kernel
theorem dX8_undo_11 : decode cX8_undo 11 = .ok (.ireturn, 1) := by decide +kernel
theorem dX8_redo_0 : decode cX8_redo 0 = .ok (.aload_n 0, 1) := by decide +kernel
theorem dX8_redo_1 : decode cX8_redo 1 = .ok (.getfield 58, 3) := by decide +kernel
theorem dX8_redo_4 : decode cX8_redo 4 = .ok (.aload_n 0, 1) := by decide +kernel
theorem dX8_redo_5 : decode cX8_redo 5 = .ok (.getfield 10, 3) := by decide +kernel
theorem dX8_redo_8 : decode cX8_redo 8 = .ok (.invokevirtual 248, 3) := by decide +kernel
theorem dX8_redo_11 : decode cX8_redo 11 = .ok (.ireturn, 1) := by decide +kernel
theorem dX8_body_0 : decode cX8_body 0 = .ok (.iload_n 1, 1) := by decide +kernel
theorem dX8_body_1 : decode cX8_body 1 = .ok (.invokestatic 251, 3) := by decide +kernel
theorem dX8_body_4 : decode cX8_body 4 = .ok (.ifCond .ne 5, 3) := by decide +kernel
theorem dX8_body_7 : decode cX8_body 7 = .ok (.iconst (-1), 1) := by decide +kernel
theorem dX8_body_8 : decode cX8_body 8 = .ok (.ireturn, 1) := by decide +kernel
theorem dX8_body_9 : decode cX8_body 9 = .ok (.aload_n 0, 1) := by decide +kernel
theorem dX8_body_10 : decode cX8_body 10 = .ok (.getfield 65, 3) := by decide +kernel
theorem dX8_body_13 : decode cX8_body 13 = .ok (.iload_n 1, 1) := by decide +kernel
theorem dX8_body_14 : decode cX8_body 14 = .ok (.invokevirtual 254, 3) := by decide +kernel
theorem dX8_body_17 : decode cX8_body 17 = .ok (.ireturn, 1) := by decide +kernel
theorem dX8_act_0 : decode cX8_act 0 = .ok (.aload_n 0, 1) := by decide +kernel
theorem dX8_act_1 : decode cX8_act 1 = .ok (.getfield 65, 3) := by decide +kernel
theorem dX8_act_4 : decode cX8_act 4 = .ok (.iload_n 1, 1) := by decide +kernel
theorem dX8_act_5 : decode cX8_act 5 = .ok (.iload_n 2, 1) := by decide +kernel
theorem dX8_act_6 : decode cX8_act 6 = .ok (.iload_n 3, 1) := by decide +kernel
theorem dX8_act_7 : decode cX8_act 7 = .ok (.invokevirtual 255, 3) := by decide +kernel
theorem dX8_act_10 : decode cX8_act 10 = .ok (.ireturn, 1) := by decide +kernel
theorem dX8_trace_0 : decode cX8_trace 0 = .ok (.aload_n 0, 1) := by decide +kernel
theorem dX8_trace_1 : decode cX8_trace 1 = .ok (.getfield 65, 3) := by decide +kernel
theorem dX8_trace_4 : decode cX8_trace 4 = .ok (.iload_n 1, 1) := by decide +kernel
theorem dX8_trace_5 : decode cX8_trace 5 = .ok (.invokevirtual 258, 3) := by decide +kernel
theorem dX8_trace_8 : decode cX8_trace 8 = .ok (.ireturn, 1) := by decide +kernel
theorem dX8_keep_0 : decode cX8_keep 0 = .ok (.iload_n 1, 1) := by decide +kernel
theorem dX8_keep_1 : decode cX8_keep 1 = .ok (.invokestatic 88, 3) := by decide +kernel
theorem dX8_keep_4 : decode cX8_keep 4 = .ok (.ifCond .eq 19, 3) := by decide +kernel
theorem dX8_keep_7 : decode cX8_keep 7 = .ok (.iload_n 2, 1) := by decide +kernel
theorem dX8_keep_8 : decode cX8_keep 8 = .ok (.iconst (-1), 1) := by decide +kernel
theorem dX8_keep_9 : decode cX8_keep 9 = .ok (.if_icmp .eq 16, 3) := by decide +kernel
theorem dX8_keep_12 : decode cX8_keep 12 = .ok (.aload_n 0, 1) := by decide +kernel
theorem dX8_keep_13 : decode cX8_keep 13 = .ok (.getfield 65, 3) := by decide +kernel
theorem dX8_keep_16 : decode cX8_keep 16 = .ok (.iload_n 2, 1) := by decide +kernel
theorem dX8_keep_17 : decode cX8_keep 17 = .ok (.invokevirtual 261, 3) := by decide +kernel
theorem dX8_keep_20 : decode cX8_keep 20 = .ok (.ifCond .ne 5, 3) := by decide +kernel
theorem dX8_keep_23 : decode cX8_keep 23 = .ok (.iconst (-1), 1) := by decide +kernel
theorem dX8_keep_24 : decode cX8_keep 24 = .ok (.ireturn, 1) := by decide +kernel
theorem dX8_keep_25 : decode cX8_keep 25 = .ok (.iload_n 2, 1) := by decide +kernel
theorem dX8_keep_26 : decode cX8_keep 26 = .ok (.iconst (-1), 1) := by decide +kernel
theorem dX8_keep_27 : decode cX8_keep 27 = .ok (.if_icmp .ne 15, 3) := by decide +kernel
theorem dX8_keep_30 : decode cX8_keep 30 = .ok (.aload_n 0, 1) := by decide +kernel
theorem dX8_keep_31 : decode cX8_keep 31 = .ok (.getfield 71, 3) := by decide +kernel
theorem dX8_keep_34 : decode cX8_keep 34 = .ok (.iload_n 1, 1) := by decide +kernel
theorem dX8_keep_35 : decode cX8_keep 35 = .ok (.aaload, 1) := by decide +kernel
theorem dX8_keep_36 : decode cX8_keep 36 = .ok (.invokevirtual 262, 3) := by decide +kernel
theorem dX8_keep_39 : decode cX8_keep 39 = .ok (.goto 13, 3) := by decide +kernel
theorem dX8_keep_42 : decode cX8_keep 42 = .ok (.aload_n 0, 1) := by decide +kernel
theorem dX8_keep_43 : decode cX8_keep 43 = .ok (.getfield 71, 3) := by decide +kernel
theorem dX8_keep_46 : decode cX8_keep 46 = .ok (.iload_n 1, 1) := by decide +kernel
theorem dX8_keep_47 : decode cX8_keep 47 = .ok (.aaload, 1) := by decide +kernel
theorem dX8_keep_48 : decode cX8_keep 48 = .ok (.iload_n 2, 1) := by decide +kernel
theorem dX8_keep_49 : decode cX8_keep 49 = .ok (.invokevirtual 263, 3) := by decide +kernel
theorem dX8_keep_52 : decode cX8_keep 52 = .ok (.iconst 1, 1) := by decide +kernel
theorem dX8_keep_53 : decode cX8_keep 53 = .ok (.ireturn, 1) := by decide +kernel
theorem dX8_row_0 : decode cX8_row 0 = .ok (.iload_n 1, 1) := by decide +kernel
theorem dX8_row_1 : decode cX8_row 1 = .ok (.invokestatic 88, 3) := by decide +kernel
theorem dX8_row_4 : decode cX8_row 4 = .ok (.ifCond .eq 18, 3) := by decide +kernel
theorem dX8_row_7 : decode cX8_row 7 = .ok (.iload_n 2, 1) := by decide +kernel
theorem dX8_row_8 : decode cX8_row 8 = .ok (.ifCond .lt 14, 3) := by decide +kernel
theorem dX8_row_11 : decode cX8_row 11 = .ok (.iload_n 2, 1) := by decide +kernel
theorem dX8_row_12 : decode cX8_row 12 = .ok (.iconst 4, 1) := by decide +kernel
theorem dX8_row_13 : decode cX8_row 13 = .ok (.if_icmp .gt 9, 3) := by decide +kernel
theorem dX8_row_16 : decode cX8_row 16 = .ok (.iload_n 3, 1) := by decide +kernel
theorem dX8_row_17 : decode cX8_row 17 = .ok (.bipush 60, 2) := by decide +kernel
theorem dX8_row_19 : decode cX8_row 19 = .ok (.if_icmp .le 5, 3) := by decide +kernel
theorem dX8_row_22 : decode cX8_row 22 = .ok (.iconst (-1), 1) := by decide +kernel
theorem dX8_row_23 : decode cX8_row 23 = .ok (.ireturn, 1) := by decide +kernel
theorem dX8_row_24 : decode cX8_row 24 = .ok (.iload_n 3, 1) := by decide +kernel
theorem dX8_row_25 : decode cX8_row 25 = .ok (.ifCond .ge 6, 3) := by decide +kernel
theorem dX8_row_28 : decode cX8_row 28 = .ok (.bipush (-14), 2) := by decide +kernel
theorem dX8_row_30 : decode cX8_row 30 = .ok (.ireturn, 1) := by decide +kernel
theorem dX8_row_31 : decode cX8_row 31 = .ok (.aload_n 0, 1) := by decide +kernel
theorem dX8_row_32 : decode cX8_row 32 = .ok (.getfield 71, 3) := by decide +kernel
theorem dX8_row_35 : decode cX8_row 35 = .ok (.iload_n 1, 1) := by decide +kernel
theorem dX8_row_36 : decode cX8_row 36 = .ok (.aaload, 1) := by decide +kernel
theorem dX8_row_37 : decode cX8_row 37 = .ok (.iload_n 2, 1) := by decide +kernel
theorem dX8_row_38 : decode cX8_row 38 = .ok (.iload_n 3, 1) := by decide +kernel
theorem dX8_row_39 : decode cX8_row 39 = .ok (.invokevirtual 266, 3) := by decide +kernel
theorem dX8_row_42 : decode cX8_row 42 = .ok (.iconst 1, 1) := by decide +kernel
theorem dX8_row_43 : decode cX8_row 43 = .ok (.ireturn, 1) := by decide +kernel
theorem dX8_put_0 : decode cX8_put 0 = .ok (.aload_n 0, 1) := by decide +kernel
theorem dX8_put_1 : decode cX8_put 1 = .ok (.iload_n 1, 1) := by decide +kernel
theorem dX8_put_2 : decode cX8_put 2 = .ok (.iload_n 2, 1) := by decide +kernel
theorem dX8_put_3 : decode cX8_put 3 = .ok (.invokevirtual 269, 3) := by decide +kernel
theorem dX8_put_6 : decode cX8_put 6 = .ok (.istore 5, 2) := by decide +kernel
theorem dX8_put_8 : decode cX8_put 8 = .ok (.iload 5, 2) := by decide +kernel
theorem dX8_put_10 : decode cX8_put 10 = .ok (.ifCond .eq 6, 3) := by decide +kernel
theorem dX8_put_13 : decode cX8_put 13 = .ok (.iload 5, 2) := by decide +kernel
theorem dX8_put_15 : decode cX8_put 15 = .ok (.ireturn, 1) := by decide +kernel
theorem dX8_put_16 : decode cX8_put 16 = .ok (.aload_n 0, 1) := by decide +kernel
theorem dX8_put_17 : decode cX8_put 17 = .ok (.getfield 71, 3) := by decide +kernel
theorem dX8_put_20 : decode cX8_put 20 = .ok (.iload_n 1, 1) := by decide +kernel
theorem dX8_put_21 : decode cX8_put 21 = .ok (.aaload, 1) := by decide +kernel
theorem dX8_put_22 : decode cX8_put 22 = .ok (.iload_n 2, 1) := by decide +kernel
theorem dX8_put_23 : decode cX8_put 23 = .ok (.lload_n 3, 1) := by decide +kernel
theorem dX8_put_24 : decode cX8_put 24 = .ok (.invokevirtual 272, 3) := by decide +kernel
theorem dX8_put_27 : decode cX8_put 27 = .ok (.iconst 1, 1) := by decide +kernel
theorem dX8_put_28 : decode cX8_put 28 = .ok (.ireturn, 1) := by decide +kernel
theorem dX8_element_0 : decode cX8_element 0 = .ok (.aload_n 0, 1) := by decide +kernel
theorem dX8_element_1 : decode cX8_element 1 = .ok (.iload_n 1, 1) := by decide +kernel
theorem dX8_element_2 : decode cX8_element 2 = .ok (.iload_n 2, 1) := by decide +kernel
theorem dX8_element_3 : decode cX8_element 3 = .ok (.invokevirtual 269, 3) := by decide +kernel
theorem dX8_element_6 : decode cX8_element 6 = .ok (.ifCond .eq 7, 3) := by decide +kernel
theorem dX8_element_9 : decode cX8_element 9 = .ok (.ldc2_w 278, 3) := by decide +kernel
theorem dX8_element_12 : decode cX8_element 12 = .ok (.lreturn, 1) := by decide +kernel
theorem dX8_element_13 : decode cX8_element 13 = .ok (.aload_n 0, 1) := by decide +kernel
theorem dX8_element_14 : decode cX8_element 14 = .ok (.getfield 71, 3) := by decide +kernel
theorem dX8_element_17 : decode cX8_element 17 = .ok (.iload_n 1, 1) := by decide +kernel
theorem dX8_element_18 : decode cX8_element 18 = .ok (.aaload, 1) := by decide +kernel
theorem dX8_element_19 : decode cX8_element 19 = .ok (.iload_n 2, 1) := by decide +kernel
theorem dX8_element_20 : decode cX8_element 20 = .ok (.invokevirtual 280, 3) := by decide +kernel
theorem dX8_element_23 : decode cX8_element 23 = .ok (.lreturn, 1) := by decide +kernel
theorem dX8_shift_0 : decode cX8_shift 0 = .ok (.iload_n 1, 1) := by decide +kernel
theorem dX8_shift_1 : decode cX8_shift 1 = .ok (.invokestatic 88, 3) := by decide +kernel
theorem dX8_shift_4 : decode cX8_shift 4 = .ok (.ifCond .eq 10, 3) := by decide +kernel
theorem dX8_shift_7 : decode cX8_shift 7 = .ok (.iload_n 3, 1) := by decide +kernel
theorem dX8_shift_8 : decode cX8_shift 8 = .ok (.invokestatic 88, 3) := by decide +kernel
theorem dX8_shift_11 : decode cX8_shift 11 = .ok (.ifCond .ne 5, 3) := by decide +kernel
theorem dX8_shift_14 : decode cX8_shift 14 = .ok (.iconst (-1), 1) := by decide +kernel
theorem dX8_shift_15 : decode cX8_shift 15 = .ok (.ireturn, 1) := by decide +kernel
theorem dX8_shift_16 : decode cX8_shift 16 = .ok (.aload_n 0, 1) := by decide +kernel
theorem dX8_shift_17 : decode cX8_shift 17 = .ok (.getfield 71, 3) := by decide +kernel
theorem dX8_shift_20 : decode cX8_shift 20 = .ok (.iload_n 1, 1) := by decide +kernel
theorem dX8_shift_21 : decode cX8_shift 21 = .ok (.aaload, 1) := by decide +kernel
theorem dX8_shift_22 : decode cX8_shift 22 = .ok (.astore 6, 2) := by decide +kernel
theorem dX8_shift_24 : decode cX8_shift 24 = .ok (.aload_n 0, 1) := by decide +kernel
theorem dX8_shift_25 : decode cX8_shift 25 = .ok (.getfield 71, 3) := by decide +kernel
theorem dX8_shift_28 : decode cX8_shift 28 = .ok (.iload_n 3, 1) := by decide +kernel
theorem dX8_shift_29 : decode cX8_shift 29 = .ok (.aaload, 1) := by decide +kernel
theorem dX8_shift_30 : decode cX8_shift 30 = .ok (.astore 7, 2) := by decide +kernel
theorem dX8_shift_32 : decode cX8_shift 32 = .ok (.aload 6, 2) := by decide +kernel
theorem dX8_shift_34 : decode cX8_shift 34 = .ok (.getfield 92, 3) := by decide +kernel
theorem dX8_shift_37 : decode cX8_shift 37 = .ok (.bipush (-2), 2) := by decide +kernel
theorem dX8_shift_39 : decode cX8_shift 39 = .ok (.if_icmp .eq 13, 3) := by decide +kernel
theorem dX8_shift_42 : decode cX8_shift 42 = .ok (.aload 7, 2) := by decide +kernel
theorem dX8_shift_44 : decode cX8_shift 44 = .ok (.getfield 92, 3) := by decide +kernel
theorem dX8_shift_47 : decode cX8_shift 47 = .ok (.bipush (-2), 2) := by decide +kernel
theorem dX8_shift_49 : decode cX8_shift 49 = .ok (.if_icmp .ne 6, 3) := by decide +kernel
theorem dX8_shift_52 : decode cX8_shift 52 = .ok (.bipush (-11), 2) := by decide +kernel
theorem dX8_shift_54 : decode cX8_shift 54 = .ok (.ireturn, 1) := by decide +kernel
theorem dX8_shift_55 : decode cX8_shift 55 = .ok (.aload 6, 2) := by decide +kernel
theorem dX8_shift_57 : decode cX8_shift 57 = .ok (.invokevirtual 284, 3) := by decide +kernel
theorem dX8_shift_60 : decode cX8_shift 60 = .ok (.ifCond .eq 16, 3) := by decide +kernel
theorem dX8_shift_63 : decode cX8_shift 63 = .ok (.aload 6, 2) := by decide +kernel
theorem dX8_shift_65 : decode cX8_shift 65 = .ok (.getfield 92, 3) := by decide +kernel
theorem dX8_shift_68 : decode cX8_shift 68 = .ok (.aload 7, 2) := by decide +kernel
theorem dX8_shift_70 : decode cX8_shift 70 = .ok (.getfield 92, 3) := by decide +kernel
theorem dX8_shift_73 : decode cX8_shift 73 = .ok (.if_icmp .eq 6, 3) := by decide +kernel
theorem dX8_shift_76 : decode cX8_shift 76 = .ok (.bipush (-12), 2) := by decide +kernel
theorem dX8_shift_78 : decode cX8_shift 78 = .ok (.ireturn, 1) := by decide +kernel
theorem dX8_shift_79 : decode cX8_shift 79 = .ok (.aload 6, 2) := by decide +kernel
theorem dX8_shift_81 : decode cX8_shift 81 = .ok (.iload_n 2, 1) := by decide +kernel
theorem dX8_shift_82 : decode cX8_shift 82 = .ok (.iload 5, 2) := by decide +kernel
theorem dX8_shift_84 : decode cX8_shift 84 = .ok (.invokevirtual 287, 3) := by decide +kernel
theorem dX8_shift_87 : decode cX8_shift 87 = .ok (.ifCond .eq 15, 3) := by decide +kernel
theorem dX8_shift_90 : decode cX8_shift 90 = .ok (.aload 7, 2) := by decide +kernel
theorem dX8_shift_92 : decode cX8_shift 92 = .ok (.iload 4, 2) := by decide +kernel
theorem dX8_shift_94 : decode cX8_shift 94 = .ok (.iload 5, 2) := by decide +kernel
theorem dX8_shift_96 : decode cX8_shift 96 = .ok (.invokevirtual 287, 3) := by decide +kernel
theorem dX8_shift_99 : decode cX8_shift 99 = .ok (.ifCond .ne 6, 3) := by decide +kernel
theorem dX8_shift_102 : decode cX8_shift 102 = .ok (.bipush (-13), 2) := by decide +kernel
theorem dX8_shift_104 : decode cX8_shift 104 = .ok (.ireturn, 1) := by decide +kernel
theorem dX8_shift_105 : decode cX8_shift 105 = .ok (.aload 6, 2) := by decide +kernel
theorem dX8_shift_107 : decode cX8_shift 107 = .ok (.getfield 290, 3) := by decide +kernel
theorem dX8_shift_110 : decode cX8_shift 110 = .ok (.iload_n 2, 1) := by decide +kernel
theorem dX8_shift_111 : decode cX8_shift 111 = .ok (.aload 7, 2) := by decide +kernel
theorem dX8_shift_113 : decode cX8_shift 113 = .ok (.getfield 290, 3) := by decide +kernel
theorem dX8_shift_116 : decode cX8_shift 116 = .ok (.iload 4, 2) := by decide +kernel
theorem dX8_shift_118 : decode cX8_shift 118 = .ok (.iload 5, 2) := by decide +kernel
theorem dX8_shift_120 : decode cX8_shift 120 = .ok (.invokestatic 294, 3) := by decide +kernel
theorem dX8_shift_123 : decode cX8_shift 123 = .ok (.iload 5, 2) := by decide +kernel
theorem dX8_shift_125 : decode cX8_shift 125 = .ok (.ireturn, 1) := by decide +kernel
theorem dX8_taken_0 : decode cX8_taken 0 = .ok (.iload_n 1, 1) := by decide +kernel
theorem dX8_taken_1 : decode cX8_taken 1 = .ok (.invokestatic 88, 3) := by decide +kernel
theorem dX8_taken_4 : decode cX8_taken 4 = .ok (.ifCond .eq 10, 3) := by decide +kernel
theorem dX8_taken_7 : decode cX8_taken 7 = .ok (.iload_n 2, 1) := by decide +kernel
theorem dX8_taken_8 : decode cX8_taken 8 = .ok (.invokestatic 251, 3) := by decide +kernel
theorem dX8_taken_11 : decode cX8_taken 11 = .ok (.ifCond .ne 5, 3) := by decide +kernel
theorem dX8_taken_14 : decode cX8_taken 14 = .ok (.iconst (-1), 1) := by decide +kernel
theorem dX8_taken_15 : decode cX8_taken 15 = .ok (.ireturn, 1) := by decide +kernel
theorem dX8_taken_16 : decode cX8_taken 16 = .ok (.aload_n 0, 1) := by decide +kernel
theorem dX8_taken_17 : decode cX8_taken 17 = .ok (.getfield 71, 3) := by decide +kernel
theorem dX8_taken_20 : decode cX8_taken 20 = .ok (.iload_n 1, 1) := by decide +kernel
theorem dX8_taken_21 : decode cX8_taken 21 = .ok (.aaload, 1) := by decide +kernel
theorem dX8_taken_22 : decode cX8_taken 22 = .ok (.astore_n 3, 1) := by decide +kernel
theorem dX8_taken_23 : decode cX8_taken 23 = .ok (.aload_n 3, 1) := by decide +kernel
theorem dX8_taken_24 : decode cX8_taken 24 = .ok (.getfield 92, 3) := by decide +kernel
theorem dX8_taken_27 : decode cX8_taken 27 = .ok (.bipush (-2), 2) := by decide +kernel
theorem dX8_taken_29 : decode cX8_taken 29 = .ok (.if_icmp .ne 6, 3) := by decide +kernel
theorem dX8_taken_32 : decode cX8_taken 32 = .ok (.bipush (-11), 2) := by decide +kernel
theorem dX8_taken_34 : decode cX8_taken 34 = .ok (.ireturn, 1) := by decide +kernel
theorem dX8_taken_35 : decode cX8_taken 35 = .ok (.aload_n 3, 1) := by decide +kernel
theorem dX8_taken_36 : decode cX8_taken 36 = .ok (.invokevirtual 284, 3) := by decide +kernel
theorem dX8_taken_39 : decode cX8_taken 39 = .ok (.ifCond .ne 18, 3) := by decide +kernel
theorem dX8_taken_42 : decode cX8_taken 42 = .ok (.aload_n 0, 1) := by decide +kernel
theorem dX8_taken_43 : decode cX8_taken 43 = .ok (.getfield 65, 3) := by decide +kernel
theorem dX8_taken_46 : decode cX8_taken 46 = .ok (.aload_n 3, 1) := by decide +kernel
theorem dX8_taken_47 : decode cX8_taken 47 = .ok (.getfield 300, 3) := by decide +kernel
theorem dX8_taken_50 : decode cX8_taken 50 = .ok (.iload_n 2, 1) := by decide +kernel
theorem dX8_taken_51 : decode cX8_taken 51 = .ok (.invokevirtual 303, 3) := by decide +kernel
theorem dX8_taken_54 : decode cX8_taken 54 = .ok (.ifCond .ne 6, 3) := by decide +kernel
theorem dX8_taken_57 : decode cX8_taken 57 = .ok (.bipush (-12), 2) := by decide +kernel
theorem dX8_taken_59 : decode cX8_taken 59 = .ok (.ireturn, 1) := by decide +kernel
theorem dX8_taken_60 : decode cX8_taken 60 = .ok (.aload_n 0, 1) := by decide +kernel
theorem dX8_taken_61 : decode cX8_taken 61 = .ok (.getfield 65, 3) := by decide +kernel
theorem dX8_taken_64 : decode cX8_taken 64 = .ok (.aload_n 3, 1) := by decide +kernel
theorem dX8_taken_65 : decode cX8_taken 65 = .ok (.getfield 300, 3) := by decide +kernel
theorem dX8_taken_68 : decode cX8_taken 68 = .ok (.invokevirtual 306, 3) := by decide +kernel
theorem dX8_taken_71 : decode cX8_taken 71 = .ok (.ireturn, 1) := by decide +kernel
theorem dX8_count_0 : decode cX8_count 0 = .ok (.iload_n 1, 1) := by decide +kernel
theorem dX8_count_1 : decode cX8_count 1 = .ok (.tableswitch 111 0 7 #[47, 55, 63, 71, 79, 87, 95, 103], 47) := by decide +kernel
theorem dX8_count_48 : decode cX8_count 48 = .ok (.aload_n 0, 1) := by decide +kernel
theorem dX8_count_49 : decode cX8_count 49 = .ok (.getfield 10, 3) := by decide +kernel
theorem dX8_count_52 : decode cX8_count 52 = .ok (.invokevirtual 213, 3) := by decide +kernel
theorem dX8_count_55 : decode cX8_count 55 = .ok (.ireturn, 1) := by decide +kernel
theorem dX8_count_56 : decode cX8_count 56 = .ok (.aload_n 0, 1) := by decide +kernel
theorem dX8_count_57 : decode cX8_count 57 = .ok (.getfield 10, 3) := by decide +kernel
theorem dX8_count_60 : decode cX8_count 60 = .ok (.invokevirtual 309, 3) := by decide +kernel
theorem dX8_count_63 : decode cX8_count 63 = .ok (.ireturn, 1) := by decide +kernel
theorem dX8_count_64 : decode cX8_count 64 = .ok (.aload_n 0, 1) := by decide +kernel
theorem dX8_count_65 : decode cX8_count 65 = .ok (.getfield 38, 3) := by decide +kernel
theorem dX8_count_68 : decode cX8_count 68 = .ok (.getfield 80, 3) := by decide +kernel
theorem dX8_count_71 : decode cX8_count 71 = .ok (.ireturn, 1) := by decide +kernel
theorem dX8_count_72 : decode cX8_count 72 = .ok (.aload_n 0, 1) := by decide +kernel
theorem dX8_count_73 : decode cX8_count 73 = .ok (.getfield 38, 3) := by decide +kernel
theorem dX8_count_76 : decode cX8_count 76 = .ok (.getfield 169, 3) := by decide +kernel
theorem dX8_count_79 : decode cX8_count 79 = .ok (.ireturn, 1) := by decide +kernel
theorem dX8_count_80 : decode cX8_count 80 = .ok (.aload_n 0, 1) := by decide +kernel
theorem dX8_count_81 : decode cX8_count 81 = .ok (.getfield 29, 3) := by decide +kernel
theorem dX8_count_84 : decode cX8_count 84 = .ok (.invokevirtual 312, 3) := by decide +kernel
theorem dX8_count_87 : decode cX8_count 87 = .ok (.ireturn, 1) := by decide +kernel
theorem dX8_count_88 : decode cX8_count 88 = .ok (.aload_n 0, 1) := by decide +kernel
theorem dX8_count_89 : decode cX8_count 89 = .ok (.getfield 58, 3) := by decide +kernel
theorem dX8_count_92 : decode cX8_count 92 = .ok (.invokevirtual 315, 3) := by decide +kernel
theorem dX8_count_95 : decode cX8_count 95 = .ok (.ireturn, 1) := by decide +kernel
theorem dX8_count_96 : decode cX8_count 96 = .ok (.aload_n 0, 1) := by decide +kernel
theorem dX8_count_97 : decode cX8_count 97 = .ok (.getfield 65, 3) := by decide +kernel
theorem dX8_count_100 : decode cX8_count 100 = .ok (.invokevirtual 318, 3) := by decide +kernel
theorem dX8_count_103 : decode cX8_count 103 = .ok (.ireturn, 1) := by decide +kernel
theorem dX8_count_104 : decode cX8_count 104 = .ok (.aload_n 0, 1) := by decide +kernel
theorem dX8_count_105 : decode cX8_count 105 = .ok (.getfield 65, 3) := by decide +kernel
theorem dX8_count_108 : decode cX8_count 108 = .ok (.invokevirtual 319, 3) := by decide +kernel
theorem dX8_count_111 : decode cX8_count 111 = .ok (.ireturn, 1) := by decide +kernel
theorem dX8_count_112 : decode cX8_count 112 = .ok (.iconst (-1), 1) := by decide +kernel
theorem dX8_count_113 : decode cX8_count 113 = .ok (.ireturn, 1) := by decide +kernel
theorem dX8_isShelf_0 : decode cX8_isShelf 0 = .ok (.iload_n 0, 1) := by decide +kernel
theorem dX8_isShelf_1 : decode cX8_isShelf 1 = .ok (.ifCond .lt 13, 3) := by decide +kernel
theorem dX8_isShelf_4 : decode cX8_isShelf 4 = .ok (.iload_n 0, 1) := by decide +kernel
theorem dX8_isShelf_5 : decode cX8_isShelf 5 = .ok (.bipush 6, 2) := by decide +kernel
theorem dX8_isShelf_7 : decode cX8_isShelf 7 = .ok (.if_icmp .ge 7, 3) := by decide +kernel
theorem dX8_isShelf_10 : decode cX8_isShelf 10 = .ok (.iconst 1, 1) := by decide +kernel
theorem dX8_isShelf_11 : decode cX8_isShelf 11 = .ok (.goto 4, 3) := by decide +kernel
theorem dX8_isShelf_14 : decode cX8_isShelf 14 = .ok (.iconst 0, 1) := by decide +kernel
theorem dX8_isShelf_15 : decode cX8_isShelf 15 = .ok (.ireturn, 1) := by decide +kernel
theorem dX8_refusalAt_0 : decode cX8_refusalAt 0 = .ok (.iload_n 1, 1) := by decide +kernel
theorem dX8_refusalAt_1 : decode cX8_refusalAt 1 = .ok (.invokestatic 88, 3) := by decide +kernel
theorem dX8_refusalAt_4 : decode cX8_refusalAt 4 = .ok (.ifCond .ne 5, 3) := by decide +kernel
theorem dX8_refusalAt_7 : decode cX8_refusalAt 7 = .ok (.iconst (-1), 1) := by decide +kernel
theorem dX8_refusalAt_8 : decode cX8_refusalAt 8 = .ok (.ireturn, 1) := by decide +kernel
theorem dX8_refusalAt_9 : decode cX8_refusalAt 9 = .ok (.aload_n 0, 1) := by decide +kernel
theorem dX8_refusalAt_10 : decode cX8_refusalAt 10 = .ok (.getfield 71, 3) := by decide +kernel
theorem dX8_refusalAt_13 : decode cX8_refusalAt 13 = .ok (.iload_n 1, 1) := by decide +kernel
theorem dX8_refusalAt_14 : decode cX8_refusalAt 14 = .ok (.aaload, 1) := by decide +kernel
theorem dX8_refusalAt_15 : decode cX8_refusalAt 15 = .ok (.astore_n 3, 1) := by decide +kernel
theorem dX8_refusalAt_16 : decode cX8_refusalAt 16 = .ok (.aload_n 3, 1) := by decide +kernel
theorem dX8_refusalAt_17 : decode cX8_refusalAt 17 = .ok (.getfield 92, 3) := by decide +kernel
theorem dX8_refusalAt_20 : decode cX8_refusalAt 20 = .ok (.bipush (-2), 2) := by decide +kernel
theorem dX8_refusalAt_22 : decode cX8_refusalAt 22 = .ok (.if_icmp .ne 6, 3) := by decide +kernel
theorem dX8_refusalAt_25 : decode cX8_refusalAt 25 = .ok (.bipush (-11), 2) := by decide +kernel
theorem dX8_refusalAt_27 : decode cX8_refusalAt 27 = .ok (.ireturn, 1) := by decide +kernel
theorem dX8_refusalAt_28 : decode cX8_refusalAt 28 = .ok (.aload_n 3, 1) := by decide +kernel
theorem dX8_refusalAt_29 : decode cX8_refusalAt 29 = .ok (.invokevirtual 284, 3) := by decide +kernel
theorem dX8_refusalAt_32 : decode cX8_refusalAt 32 = .ok (.ifCond .ne 6, 3) := by decide +kernel
theorem dX8_refusalAt_35 : decode cX8_refusalAt 35 = .ok (.bipush (-12), 2) := by decide +kernel
theorem dX8_refusalAt_37 : decode cX8_refusalAt 37 = .ok (.ireturn, 1) := by decide +kernel
theorem dX8_refusalAt_38 : decode cX8_refusalAt 38 = .ok (.aload_n 3, 1) := by decide +kernel
theorem dX8_refusalAt_39 : decode cX8_refusalAt 39 = .ok (.iload_n 2, 1) := by decide +kernel
theorem dX8_refusalAt_40 : decode cX8_refusalAt 40 = .ok (.invokevirtual 322, 3) := by decide +kernel
theorem dX8_refusalAt_43 : decode cX8_refusalAt 43 = .ok (.ifCond .eq 7, 3) := by decide +kernel
theorem dX8_refusalAt_46 : decode cX8_refusalAt 46 = .ok (.iconst 0, 1) := by decide +kernel
theorem dX8_refusalAt_47 : decode cX8_refusalAt 47 = .ok (.goto 5, 3) := by decide +kernel
theorem dX8_refusalAt_50 : decode cX8_refusalAt 50 = .ok (.bipush (-13), 2) := by decide +kernel
theorem dX8_refusalAt_52 : decode cX8_refusalAt 52 = .ok (.ireturn, 1) := by decide +kernel
theorem dX8_isToldElse_0 : decode cX8_isToldElse 0 = .ok (.aload_n 0, 1) := by decide +kernel
theorem dX8_isToldElse_1 : decode cX8_isToldElse 1 = .ok (.iload_n 1, 1) := by decide +kernel
theorem dX8_isToldElse_2 : decode cX8_isToldElse 2 = .ok (.invokevirtual 322, 3) := by decide +kernel
theorem dX8_isToldElse_5 : decode cX8_isToldElse 5 = .ok (.ifCond .eq 18, 3) := by decide +kernel
theorem dX8_isToldElse_8 : decode cX8_isToldElse 8 = .ok (.aload_n 0, 1) := by decide +kernel
theorem dX8_isToldElse_9 : decode cX8_isToldElse 9 = .ok (.iload_n 1, 1) := by decide +kernel
theorem dX8_isToldElse_10 : decode cX8_isToldElse 10 = .ok (.invokevirtual 280, 3) := by decide +kernel
theorem dX8_isToldElse_13 : decode cX8_isToldElse 13 = .ok (.iload_n 2, 1) := by decide +kernel
theorem dX8_isToldElse_14 : decode cX8_isToldElse 14 = .ok (.i2l, 1) := by decide +kernel
theorem dX8_isToldElse_15 : decode cX8_isToldElse 15 = .ok (.lcmp, 1) := by decide +kernel
theorem dX8_isToldElse_16 : decode cX8_isToldElse 16 = .ok (.ifCond .eq 7, 3) := by decide +kernel
theorem dX8_isToldElse_19 : decode cX8_isToldElse 19 = .ok (.iconst 1, 1) := by decide +kernel
theorem dX8_isToldElse_20 : decode cX8_isToldElse 20 = .ok (.goto 4, 3) := by decide +kernel
theorem dX8_isToldElse_23 : decode cX8_isToldElse 23 = .ok (.iconst 0, 1) := by decide +kernel
theorem dX8_isToldElse_24 : decode cX8_isToldElse 24 = .ok (.ireturn, 1) := by decide +kernel
theorem dX8_comesFrom_0 : decode cX8_comesFrom 0 = .ok (.aload_n 1, 1) := by decide +kernel
theorem dX8_comesFrom_1 : decode cX8_comesFrom 1 = .ok (.iload_n 2, 1) := by decide +kernel
theorem dX8_comesFrom_2 : decode cX8_comesFrom 2 = .ok (.iconst 3, 1) := by decide +kernel
theorem dX8_comesFrom_3 : decode cX8_comesFrom 3 = .ok (.invokevirtual 287, 3) := by decide +kernel
theorem dX8_comesFrom_6 : decode cX8_comesFrom 6 = .ok (.ifCond .ne 5, 3) := by decide +kernel
theorem dX8_comesFrom_9 : decode cX8_comesFrom 9 = .ok (.iconst 0, 1) := by decide +kernel
theorem dX8_comesFrom_10 : decode cX8_comesFrom 10 = .ok (.ireturn, 1) := by decide +kernel
theorem dX8_comesFrom_11 : decode cX8_comesFrom 11 = .ok (.aload_n 1, 1) := by decide +kernel
theorem dX8_comesFrom_12 : decode cX8_comesFrom 12 = .ok (.iload_n 2, 1) := by decide +kernel
theorem dX8_comesFrom_13 : decode cX8_comesFrom 13 = .ok (.invokevirtual 280, 3) := by decide +kernel
theorem dX8_comesFrom_16 : decode cX8_comesFrom 16 = .ok (.lstore_n 3, 1) := by decide +kernel
theorem dX8_comesFrom_17 : decode cX8_comesFrom 17 = .ok (.aload_n 1, 1) := by decide +kernel
theorem dX8_comesFrom_18 : decode cX8_comesFrom 18 = .ok (.iload_n 2, 1) := by decide +kernel
theorem dX8_comesFrom_19 : decode cX8_comesFrom 19 = .ok (.iconst 1, 1) := by decide +kernel
theorem dX8_comesFrom_20 : decode cX8_comesFrom 20 = .ok (.iadd, 1) := by decide +kernel
theorem dX8_comesFrom_21 : decode cX8_comesFrom 21 = .ok (.invokevirtual 280, 3) := by decide +kernel
theorem dX8_comesFrom_24 : decode cX8_comesFrom 24 = .ok (.lstore 5, 2) := by decide +kernel
theorem dX8_comesFrom_26 : decode cX8_comesFrom 26 = .ok (.aload_n 1, 1) := by decide +kernel
theorem dX8_comesFrom_27 : decode cX8_comesFrom 27 = .ok (.iload_n 2, 1) := by decide +kernel
theorem dX8_comesFrom_28 : decode cX8_comesFrom 28 = .ok (.iconst 2, 1) := by decide +kernel
theorem dX8_comesFrom_29 : decode cX8_comesFrom 29 = .ok (.iadd, 1) := by decide +kernel
theorem dX8_comesFrom_30 : decode cX8_comesFrom 30 = .ok (.invokevirtual 280, 3) := by decide +kernel
theorem dX8_comesFrom_33 : decode cX8_comesFrom 33 = .ok (.lstore 7, 2) := by decide +kernel
theorem dX8_comesFrom_35 : decode cX8_comesFrom 35 = .ok (.lload_n 3, 1) := by decide +kernel
theorem dX8_comesFrom_36 : decode cX8_comesFrom 36 = .ok (.invokestatic 325, 3) := by decide +kernel
theorem dX8_comesFrom_39 : decode cX8_comesFrom 39 = .ok (.ifCond .eq 19, 3) := by decide +kernel
theorem dX8_comesFrom_42 : decode cX8_comesFrom 42 = .ok (.lload 5, 2) := by decide +kernel
theorem dX8_comesFrom_44 : decode cX8_comesFrom 44 = .ok (.invokestatic 325, 3) := by decide +kernel
theorem dX8_comesFrom_47 : decode cX8_comesFrom 47 = .ok (.ifCond .eq 11, 3) := by decide +kernel
theorem dX8_comesFrom_50 : decode cX8_comesFrom 50 = .ok (.lload 7, 2) := by decide +kernel
theorem dX8_comesFrom_52 : decode cX8_comesFrom 52 = .ok (.invokestatic 325, 3) := by decide +kernel
theorem dX8_comesFrom_55 : decode cX8_comesFrom 55 = .ok (.ifCond .ne 5, 3) := by decide +kernel
theorem dX8_comesFrom_58 : decode cX8_comesFrom 58 = .ok (.iconst 0, 1) := by decide +kernel
theorem dX8_comesFrom_59 : decode cX8_comesFrom 59 = .ok (.ireturn, 1) := by decide +kernel
theorem dX8_comesFrom_60 : decode cX8_comesFrom 60 = .ok (.aload_n 0, 1) := by decide +kernel
theorem dX8_comesFrom_61 : decode cX8_comesFrom 61 = .ok (.getfield 10, 3) := by decide +kernel
theorem dX8_comesFrom_64 : decode cX8_comesFrom 64 = .ok (.lload_n 3, 1) := by decide +kernel
theorem dX8_comesFrom_65 : decode cX8_comesFrom 65 = .ok (.l2i, 1) := by decide +kernel
theorem dX8_comesFrom_66 : decode cX8_comesFrom 66 = .ok (.lload 5, 2) := by decide +kernel
theorem dX8_comesFrom_68 : decode cX8_comesFrom 68 = .ok (.l2i, 1) := by decide +kernel
theorem dX8_comesFrom_69 : decode cX8_comesFrom 69 = .ok (.lload 7, 2) := by decide +kernel
theorem dX8_comesFrom_71 : decode cX8_comesFrom 71 = .ok (.l2i, 1) := by decide +kernel
theorem dX8_comesFrom_72 : decode cX8_comesFrom 72 = .ok (.invokevirtual 84, 3) := by decide +kernel
theorem dX8_comesFrom_75 : decode cX8_comesFrom 75 = .ok (.bipush (-3), 2) := by decide +kernel
theorem dX8_comesFrom_77 : decode cX8_comesFrom 77 = .ok (.if_icmp .eq 7, 3) := by decide +kernel
theorem dX8_comesFrom_80 : decode cX8_comesFrom 80 = .ok (.iconst 1, 1) := by decide +kernel
theorem dX8_comesFrom_81 : decode cX8_comesFrom 81 = .ok (.goto 4, 3) := by decide +kernel
theorem dX8_comesFrom_84 : decode cX8_comesFrom 84 = .ok (.iconst 0, 1) := by decide +kernel
theorem dX8_comesFrom_85 : decode cX8_comesFrom 85 = .ok (.ireturn, 1) := by decide +kernel
theorem dX8_isDigit_0 : decode cX8_isDigit 0 = .ok (.lload_n 0, 1) := by decide +kernel
theorem dX8_isDigit_1 : decode cX8_isDigit 1 = .ok (.lconst 0, 1) := by decide +kernel
theorem dX8_isDigit_2 : decode cX8_isDigit 2 = .ok (.lcmp, 1) := by decide +kernel
theorem dX8_isDigit_3 : decode cX8_isDigit 3 = .ok (.ifCond .lt 15, 3) := by decide +kernel
theorem dX8_isDigit_6 : decode cX8_isDigit 6 = .ok (.lload_n 0, 1) := by decide +kernel
theorem dX8_isDigit_7 : decode cX8_isDigit 7 = .ok (.ldc2_w 329, 3) := by decide +kernel
theorem dX8_isDigit_10 : decode cX8_isDigit 10 = .ok (.lcmp, 1) := by decide +kernel
theorem dX8_isDigit_11 : decode cX8_isDigit 11 = .ok (.ifCond .gt 7, 3) := by decide +kernel
theorem dX8_isDigit_14 : decode cX8_isDigit 14 = .ok (.iconst 1, 1) := by decide +kernel
theorem dX8_isDigit_15 : decode cX8_isDigit 15 = .ok (.goto 4, 3) := by decide +kernel
theorem dX8_isDigit_18 : decode cX8_isDigit 18 = .ok (.iconst 0, 1) := by decide +kernel
theorem dX8_isDigit_19 : decode cX8_isDigit 19 = .ok (.ireturn, 1) := by decide +kernel
theorem dX8_wentSo_0 : decode cX8_wentSo 0 = .ok (.aload_n 0, 1) := by decide +kernel
theorem dX8_wentSo_1 : decode cX8_wentSo 1 = .ok (.getfield 42, 3) := by decide +kernel
theorem dX8_wentSo_4 : decode cX8_wentSo 4 = .ok (.aload_n 0, 1) := by decide +kernel
theorem dX8_wentSo_5 : decode cX8_wentSo 5 = .ok (.getfield 38, 3) := by decide +kernel
theorem dX8_wentSo_8 : decode cX8_wentSo 8 = .ok (.iload_n 1, 1) := by decide +kernel
theorem dX8_wentSo_9 : decode cX8_wentSo 9 = .ok (.invokevirtual 331, 3) := by decide +kernel
theorem dX8_wentSo_12 : decode cX8_wentSo 12 = .ok (.iconst 0, 1) := by decide +kernel
theorem dX8_wentSo_13 : decode cX8_wentSo 13 = .ok (.istore_n 2, 1) := by decide +kernel
theorem dX8_wentSo_14 : decode cX8_wentSo 14 = .ok (.iload_n 2, 1) := by decide +kernel
theorem dX8_wentSo_15 : decode cX8_wentSo 15 = .ok (.aload_n 0, 1) := by decide +kernel
theorem dX8_wentSo_16 : decode cX8_wentSo 16 = .ok (.getfield 38, 3) := by decide +kernel
theorem dX8_wentSo_19 : decode cX8_wentSo 19 = .ok (.getfield 80, 3) := by decide +kernel
theorem dX8_wentSo_22 : decode cX8_wentSo 22 = .ok (.if_icmp .ge 40, 3) := by decide +kernel
theorem dX8_wentSo_25 : decode cX8_wentSo 25 = .ok (.aload_n 0, 1) := by decide +kernel
theorem dX8_wentSo_26 : decode cX8_wentSo 26 = .ok (.getfield 42, 3) := by decide +kernel
theorem dX8_wentSo_29 : decode cX8_wentSo 29 = .ok (.iconst 1, 1) := by decide +kernel
theorem dX8_wentSo_30 : decode cX8_wentSo 30 = .ok (.invokevirtual 175, 3) := by decide +kernel
theorem dX8_wentSo_33 : decode cX8_wentSo 33 = .ok (.aload_n 0, 1) := by decide +kernel
theorem dX8_wentSo_34 : decode cX8_wentSo 34 = .ok (.getfield 51, 3) := by decide +kernel
theorem dX8_wentSo_37 : decode cX8_wentSo 37 = .ok (.aload_n 0, 1) := by decide +kernel
theorem dX8_wentSo_38 : decode cX8_wentSo 38 = .ok (.getfield 42, 3) := by decide +kernel
theorem dX8_wentSo_41 : decode cX8_wentSo 41 = .ok (.aload_n 0, 1) := by decide +kernel
theorem dX8_wentSo_42 : decode cX8_wentSo 42 = .ok (.getfield 10, 3) := by decide +kernel
theorem dX8_wentSo_45 : decode cX8_wentSo 45 = .ok (.invokevirtual 309, 3) := by decide +kernel
theorem dX8_wentSo_48 : decode cX8_wentSo 48 = .ok (.invokevirtual 334, 3) := by decide +kernel
theorem dX8_wentSo_51 : decode cX8_wentSo 51 = .ok (.ifCond .ne 5, 3) := by decide +kernel
theorem dX8_wentSo_54 : decode cX8_wentSo 54 = .ok (.iconst 0, 1) := by decide +kernel
theorem dX8_wentSo_55 : decode cX8_wentSo 55 = .ok (.ireturn, 1) := by decide +kernel
theorem dX8_wentSo_56 : decode cX8_wentSo 56 = .ok (.iinc 2 1, 3) := by decide +kernel
theorem dX8_wentSo_59 : decode cX8_wentSo 59 = .ok (.goto (-45), 3) := by decide +kernel
theorem dX8_wentSo_62 : decode cX8_wentSo 62 = .ok (.iconst 1, 1) := by decide +kernel
theorem dX8_wentSo_63 : decode cX8_wentSo 63 = .ok (.ireturn, 1) := by decide +kernel
theorem dX8_thinkOfChange_0 : decode cX8_thinkOfChange 0 = .ok (.aload_n 0, 1) := by decide +kernel
theorem dX8_thinkOfChange_1 : decode cX8_thinkOfChange 1 = .ok (.getfield 42, 3) := by decide +kernel
theorem dX8_thinkOfChange_4 : decode cX8_thinkOfChange 4 = .ok (.aload_n 0, 1) := by decide +kernel
theorem dX8_thinkOfChange_5 : decode cX8_thinkOfChange 5 = .ok (.getfield 38, 3) := by decide +kernel
theorem dX8_thinkOfChange_8 : decode cX8_thinkOfChange 8 = .ok (.iload_n 1, 1) := by decide +kernel
theorem dX8_thinkOfChange_9 : decode cX8_thinkOfChange 9 = .ok (.invokevirtual 203, 3) := by decide +kernel
theorem dX8_thinkOfChange_12 : decode cX8_thinkOfChange 12 = .ok (.aload_n 0, 1) := by decide +kernel
theorem dX8_thinkOfChange_13 : decode cX8_thinkOfChange 13 = .ok (.getfield 42, 3) := by decide +kernel
theorem dX8_thinkOfChange_16 : decode cX8_thinkOfChange 16 = .ok (.iload_n 2, 1) := by decide +kernel
theorem dX8_thinkOfChange_17 : decode cX8_thinkOfChange 17 = .ok (.iload_n 3, 1) := by decide +kernel
theorem dX8_thinkOfChange_18 : decode cX8_thinkOfChange 18 = .ok (.invokevirtual 338, 3) := by decide +kernel
theorem dX8_thinkOfChange_21 : decode cX8_thinkOfChange 21 = .ok (.aload_n 0, 1) := by decide +kernel
theorem dX8_thinkOfChange_22 : decode cX8_thinkOfChange 22 = .ok (.getfield 42, 3) := by decide +kernel
theorem dX8_thinkOfChange_25 : decode cX8_thinkOfChange 25 = .ok (.bipush 24, 2) := by decide +kernel
theorem dX8_thinkOfChange_27 : decode cX8_thinkOfChange 27 = .ok (.aload_n 0, 1) := by decide +kernel
theorem dX8_thinkOfChange_28 : decode cX8_thinkOfChange 28 = .ok (.getfield 38, 3) := by decide +kernel
theorem dX8_thinkOfChange_31 : decode cX8_thinkOfChange 31 = .ok (.getfield 80, 3) := by decide +kernel
theorem dX8_thinkOfChange_34 : decode cX8_thinkOfChange 34 = .ok (.isub, 1) := by decide +kernel
theorem dX8_thinkOfChange_35 : decode cX8_thinkOfChange 35 = .ok (.invokevirtual 175, 3) := by decide +kernel
theorem dX8_thinkOfChange_38 : decode cX8_thinkOfChange 38 = .ok (.return_, 1) := by decide +kernel
theorem dX8_isPeaceful_0 : decode cX8_isPeaceful 0 = .ok (.aload_n 0, 1) := by decide +kernel
theorem dX8_isPeaceful_1 : decode cX8_isPeaceful 1 = .ok (.getfield 42, 3) := by decide +kernel
theorem dX8_isPeaceful_4 : decode cX8_isPeaceful 4 = .ok (.aload_n 0, 1) := by decide +kernel
theorem dX8_isPeaceful_5 : decode cX8_isPeaceful 5 = .ok (.getfield 38, 3) := by decide +kernel
theorem dX8_isPeaceful_8 : decode cX8_isPeaceful 8 = .ok (.iload_n 1, 1) := by decide +kernel
theorem dX8_isPeaceful_9 : decode cX8_isPeaceful 9 = .ok (.invokevirtual 203, 3) := by decide +kernel
theorem dX8_isPeaceful_12 : decode cX8_isPeaceful 12 = .ok (.aload_n 0, 1) := by decide +kernel
theorem dX8_isPeaceful_13 : decode cX8_isPeaceful 13 = .ok (.getfield 42, 3) := by decide +kernel
theorem dX8_isPeaceful_16 : decode cX8_isPeaceful 16 = .ok (.iload_n 2, 1) := by decide +kernel
theorem dX8_isPeaceful_17 : decode cX8_isPeaceful 17 = .ok (.iload_n 3, 1) := by decide +kernel
theorem dX8_isPeaceful_18 : decode cX8_isPeaceful 18 = .ok (.invokevirtual 103, 3) := by decide +kernel
theorem dX8_isPeaceful_21 : decode cX8_isPeaceful 21 = .ok (.aload_n 0, 1) := by decide +kernel
theorem dX8_isPeaceful_22 : decode cX8_isPeaceful 22 = .ok (.getfield 38, 3) := by decide +kernel
theorem dX8_isPeaceful_25 : decode cX8_isPeaceful 25 = .ok (.getfield 80, 3) := by decide +kernel
theorem dX8_isPeaceful_28 : decode cX8_isPeaceful 28 = .ok (.istore 4, 2) := by decide +kernel
theorem dX8_isPeaceful_30 : decode cX8_isPeaceful 30 = .ok (.iload 4, 2) := by decide +kernel
theorem dX8_isPeaceful_32 : decode cX8_isPeaceful 32 = .ok (.bipush 24, 2) := by decide +kernel
theorem dX8_isPeaceful_34 : decode cX8_isPeaceful 34 = .ok (.if_icmp .ge 31, 3) := by decide +kernel
theorem dX8_isPeaceful_37 : decode cX8_isPeaceful 37 = .ok (.aload_n 0, 1) := by decide +kernel
theorem dX8_isPeaceful_38 : decode cX8_isPeaceful 38 = .ok (.getfield 42, 3) := by decide +kernel
theorem dX8_isPeaceful_41 : decode cX8_isPeaceful 41 = .ok (.iconst 1, 1) := by decide +kernel
theorem dX8_isPeaceful_42 : decode cX8_isPeaceful 42 = .ok (.invokevirtual 175, 3) := by decide +kernel
theorem dX8_isPeaceful_45 : decode cX8_isPeaceful 45 = .ok (.aload_n 0, 1) := by decide +kernel
theorem dX8_isPeaceful_46 : decode cX8_isPeaceful 46 = .ok (.getfield 42, 3) := by decide +kernel
theorem dX8_isPeaceful_49 : decode cX8_isPeaceful 49 = .ok (.getfield 341, 3) := by decide +kernel
theorem dX8_isPeaceful_52 : decode cX8_isPeaceful 52 = .ok (.iload_n 2, 1) := by decide +kernel
theorem dX8_isPeaceful_53 : decode cX8_isPeaceful 53 = .ok (.iaload, 1) := by decide +kernel
theorem dX8_isPeaceful_54 : decode cX8_isPeaceful 54 = .ok (.ifCond .eq 5, 3) := by decide +kernel
theorem dX8_isPeaceful_57 : decode cX8_isPeaceful 57 = .ok (.iconst 0, 1) := by decide +kernel
theorem dX8_isPeaceful_58 : decode cX8_isPeaceful 58 = .ok (.ireturn, 1) := by decide +kernel
theorem dX8_isPeaceful_59 : decode cX8_isPeaceful 59 = .ok (.iinc 4 1, 3) := by decide +kernel
theorem dX8_isPeaceful_62 : decode cX8_isPeaceful 62 = .ok (.goto (-32), 3) := by decide +kernel
theorem dX8_isPeaceful_65 : decode cX8_isPeaceful 65 = .ok (.iconst 1, 1) := by decide +kernel
theorem dX8_isPeaceful_66 : decode cX8_isPeaceful 66 = .ok (.ireturn, 1) := by decide +kernel
theorem dX8_usedByLeft_0 : decode cX8_usedByLeft 0 = .ok (.iload_n 2, 1) := by decide +kernel
theorem dX8_usedByLeft_1 : decode cX8_usedByLeft 1 = .ok (.aload_n 0, 1) := by decide +kernel
theorem dX8_usedByLeft_2 : decode cX8_usedByLeft 2 = .ok (.getfield 10, 3) := by decide +kernel
theorem dX8_usedByLeft_5 : decode cX8_usedByLeft 5 = .ok (.iload_n 1, 1) := by decide +kernel
theorem dX8_usedByLeft_6 : decode cX8_usedByLeft 6 = .ok (.iconst 0, 1) := by decide +kernel
theorem dX8_usedByLeft_7 : decode cX8_usedByLeft 7 = .ok (.invokevirtual 114, 3) := by decide +kernel
theorem dX8_usedByLeft_10 : decode cX8_usedByLeft 10 = .ok (.invokestatic 344, 3) := by decide +kernel
theorem dX8_usedByLeft_13 : decode cX8_usedByLeft 13 = .ok (.ireturn, 1) := by decide +kernel
theorem dX8_usedByRight_0 : decode cX8_usedByRight 0 = .ok (.aload_n 0, 1) := by decide +kernel
theorem dX8_usedByRight_1 : decode cX8_usedByRight 1 = .ok (.getfield 38, 3) := by decide +kernel
theorem dX8_usedByRight_4 : decode cX8_usedByRight 4 = .ok (.getfield 99, 3) := by decide +kernel
theorem dX8_usedByRight_7 : decode cX8_usedByRight 7 = .ok (.iload_n 1, 1) := by decide +kernel
theorem dX8_usedByRight_8 : decode cX8_usedByRight 8 = .ok (.iaload, 1) := by decide +kernel
theorem dX8_usedByRight_9 : decode cX8_usedByRight 9 = .ok (.iload_n 2, 1) := by decide +kernel
theorem dX8_usedByRight_10 : decode cX8_usedByRight 10 = .ok (.isub, 1) := by decide +kernel
theorem dX8_usedByRight_11 : decode cX8_usedByRight 11 = .ok (.aload_n 0, 1) := by decide +kernel
theorem dX8_usedByRight_12 : decode cX8_usedByRight 12 = .ok (.getfield 10, 3) := by decide +kernel
theorem dX8_usedByRight_15 : decode cX8_usedByRight 15 = .ok (.iload_n 1, 1) := by decide +kernel
theorem dX8_usedByRight_16 : decode cX8_usedByRight 16 = .ok (.iconst 1, 1) := by decide +kernel
theorem dX8_usedByRight_17 : decode cX8_usedByRight 17 = .ok (.iadd, 1) := by decide +kernel
theorem dX8_usedByRight_18 : decode cX8_usedByRight 18 = .ok (.iconst 0, 1) := by decide +kernel
theorem dX8_usedByRight_19 : decode cX8_usedByRight 19 = .ok (.invokevirtual 114, 3) := by decide +kernel
theorem dX8_usedByRight_22 : decode cX8_usedByRight 22 = .ok (.invokestatic 344, 3) := by decide +kernel
theorem dX8_usedByRight_25 : decode cX8_usedByRight 25 = .ok (.ireturn, 1) := by decide +kernel
theorem dX8_isBetterForBoth_0 : decode cX8_isBetterForBoth 0 = .ok (.aload_n 0, 1) := by decide +kernel
theorem dX8_isBetterForBoth_1 : decode cX8_isBetterForBoth 1 = .ok (.iload_n 1, 1) := by decide +kernel
theorem dX8_isBetterForBoth_2 : decode cX8_isBetterForBoth 2 = .ok (.iload_n 2, 1) := by decide +kernel
theorem dX8_isBetterForBoth_3 : decode cX8_isBetterForBoth 3 = .ok (.invokevirtual 227, 3) := by decide +kernel
theorem dX8_isBetterForBoth_6 : decode cX8_isBetterForBoth 6 = .ok (.istore 4, 2) := by decide +kernel
theorem dX8_isBetterForBoth_8 : decode cX8_isBetterForBoth 8 = .ok (.aload_n 0, 1) := by decide +kernel
theorem dX8_isBetterForBoth_9 : decode cX8_isBetterForBoth 9 = .ok (.iload_n 1, 1) := by decide +kernel
theorem dX8_isBetterForBoth_10 : decode cX8_isBetterForBoth 10 = .ok (.iload_n 2, 1) := by decide +kernel
theorem dX8_isBetterForBoth_11 : decode cX8_isBetterForBoth 11 = .ok (.invokevirtual 230, 3) := by decide +kernel
theorem dX8_isBetterForBoth_14 : decode cX8_isBetterForBoth 14 = .ok (.istore 5, 2) := by decide +kernel
theorem dX8_isBetterForBoth_16 : decode cX8_isBetterForBoth 16 = .ok (.aload_n 0, 1) := by decide +kernel
theorem dX8_isBetterForBoth_17 : decode cX8_isBetterForBoth 17 = .ok (.iload_n 1, 1) := by decide +kernel
theorem dX8_isBetterForBoth_18 : decode cX8_isBetterForBoth 18 = .ok (.iload_n 3, 1) := by decide +kernel
theorem dX8_isBetterForBoth_19 : decode cX8_isBetterForBoth 19 = .ok (.invokevirtual 227, 3) := by decide +kernel
theorem dX8_isBetterForBoth_22 : decode cX8_isBetterForBoth 22 = .ok (.istore 6, 2) := by decide +kernel
theorem dX8_isBetterForBoth_24 : decode cX8_isBetterForBoth 24 = .ok (.aload_n 0, 1) := by decide +kernel
theorem dX8_isBetterForBoth_25 : decode cX8_isBetterForBoth 25 = .ok (.iload_n 1, 1) := by decide +kernel
theorem dX8_isBetterForBoth_26 : decode cX8_isBetterForBoth 26 = .ok (.iload_n 3, 1) := by decide +kernel
theorem dX8_isBetterForBoth_27 : decode cX8_isBetterForBoth 27 = .ok (.invokevirtual 230, 3) := by decide +kernel
theorem dX8_isBetterForBoth_30 : decode cX8_isBetterForBoth 30 = .ok (.istore 7, 2) := by decide +kernel
theorem dX8_isBetterForBoth_32 : decode cX8_isBetterForBoth 32 = .ok (.iload 4, 2) := by decide +kernel
theorem dX8_isBetterForBoth_34 : decode cX8_isBetterForBoth 34 = .ok (.iload 5, 2) := by decide +kernel
theorem dX8_isBetterForBoth_36 : decode cX8_isBetterForBoth 36 = .ok (.iadd, 1) := by decide +kernel
theorem dX8_isBetterForBoth_37 : decode cX8_isBetterForBoth 37 = .ok (.iload 6, 2) := by decide +kernel
theorem dX8_isBetterForBoth_39 : decode cX8_isBetterForBoth 39 = .ok (.iload 7, 2) := by decide +kernel
theorem dX8_isBetterForBoth_41 : decode cX8_isBetterForBoth 41 = .ok (.iadd, 1) := by decide +kernel
theorem dX8_isBetterForBoth_42 : decode cX8_isBetterForBoth 42 = .ok (.if_icmp .eq 22, 3) := by decide +kernel
theorem dX8_isBetterForBoth_45 : decode cX8_isBetterForBoth 45 = .ok (.iload 4, 2) := by decide +kernel
theorem dX8_isBetterForBoth_47 : decode cX8_isBetterForBoth 47 = .ok (.iload 5, 2) := by decide +kernel
theorem dX8_isBetterForBoth_49 : decode cX8_isBetterForBoth 49 = .ok (.iadd, 1) := by decide +kernel
theorem dX8_isBetterForBoth_50 : decode cX8_isBetterForBoth 50 = .ok (.iload 6, 2) := by decide +kernel
theorem dX8_isBetterForBoth_52 : decode cX8_isBetterForBoth 52 = .ok (.iload 7, 2) := by decide +kernel
theorem dX8_isBetterForBoth_54 : decode cX8_isBetterForBoth 54 = .ok (.iadd, 1) := by decide +kernel
theorem dX8_isBetterForBoth_55 : decode cX8_isBetterForBoth 55 = .ok (.if_icmp .le 7, 3) := by decide +kernel
theorem dX8_isBetterForBoth_58 : decode cX8_isBetterForBoth 58 = .ok (.iconst 1, 1) := by decide +kernel
theorem dX8_isBetterForBoth_59 : decode cX8_isBetterForBoth 59 = .ok (.goto 4, 3) := by decide +kernel
theorem dX8_isBetterForBoth_62 : decode cX8_isBetterForBoth 62 = .ok (.iconst 0, 1) := by decide +kernel
theorem dX8_isBetterForBoth_63 : decode cX8_isBetterForBoth 63 = .ok (.ireturn, 1) := by decide +kernel
theorem dX8_isBetterForBoth_64 : decode cX8_isBetterForBoth 64 = .ok (.iload 4, 2) := by decide +kernel
theorem dX8_isBetterForBoth_66 : decode cX8_isBetterForBoth 66 = .ok (.iload 5, 2) := by decide +kernel
theorem dX8_isBetterForBoth_68 : decode cX8_isBetterForBoth 68 = .ok (.invokestatic 344, 3) := by decide +kernel
theorem dX8_isBetterForBoth_71 : decode cX8_isBetterForBoth 71 = .ok (.iload 6, 2) := by decide +kernel
theorem dX8_isBetterForBoth_73 : decode cX8_isBetterForBoth 73 = .ok (.iload 7, 2) := by decide +kernel
theorem dX8_isBetterForBoth_75 : decode cX8_isBetterForBoth 75 = .ok (.invokestatic 344, 3) := by decide +kernel
theorem dX8_isBetterForBoth_78 : decode cX8_isBetterForBoth 78 = .ok (.if_icmp .le 7, 3) := by decide +kernel
theorem dX8_isBetterForBoth_81 : decode cX8_isBetterForBoth 81 = .ok (.iconst 1, 1) := by decide +kernel
theorem dX8_isBetterForBoth_82 : decode cX8_isBetterForBoth 82 = .ok (.goto 4, 3) := by decide +kernel
theorem dX8_isBetterForBoth_85 : decode cX8_isBetterForBoth 85 = .ok (.iconst 0, 1) := by decide +kernel
theorem dX8_isBetterForBoth_86 : decode cX8_isBetterForBoth 86 = .ok (.ireturn, 1) := by decide +kernel
theorem dX8_soldByLeft_0 : decode cX8_soldByLeft 0 = .ok (.aload_n 0, 1) := by decide +kernel
theorem dX8_soldByLeft_1 : decode cX8_soldByLeft 1 = .ok (.iload_n 1, 1) := by decide +kernel
theorem dX8_soldByLeft_2 : decode cX8_soldByLeft 2 = .ok (.aload_n 0, 1) := by decide +kernel
theorem dX8_soldByLeft_3 : decode cX8_soldByLeft 3 = .ok (.getfield 38, 3) := by decide +kernel
theorem dX8_soldByLeft_6 : decode cX8_soldByLeft 6 = .ok (.getfield 153, 3) := by decide +kernel
theorem dX8_soldByLeft_9 : decode cX8_soldByLeft 9 = .ok (.iload_n 1, 1) := by decide +kernel
theorem dX8_soldByLeft_10 : decode cX8_soldByLeft 10 = .ok (.iaload, 1) := by decide +kernel
theorem dX8_soldByLeft_11 : decode cX8_soldByLeft 11 = .ok (.iload_n 1, 1) := by decide +kernel
theorem dX8_soldByLeft_12 : decode cX8_soldByLeft 12 = .ok (.iconst 1, 1) := by decide +kernel
theorem dX8_soldByLeft_13 : decode cX8_soldByLeft 13 = .ok (.iadd, 1) := by decide +kernel
theorem dX8_soldByLeft_14 : decode cX8_soldByLeft 14 = .ok (.aload_n 0, 1) := by decide +kernel
theorem dX8_soldByLeft_15 : decode cX8_soldByLeft 15 = .ok (.getfield 38, 3) := by decide +kernel
theorem dX8_soldByLeft_18 : decode cX8_soldByLeft 18 = .ok (.getfield 156, 3) := by decide +kernel
theorem dX8_soldByLeft_21 : decode cX8_soldByLeft 21 = .ok (.iload_n 1, 1) := by decide +kernel
theorem dX8_soldByLeft_22 : decode cX8_soldByLeft 22 = .ok (.iaload, 1) := by decide +kernel
theorem dX8_soldByLeft_23 : decode cX8_soldByLeft 23 = .ok (.invokevirtual 347, 3) := by decide +kernel
theorem dX8_soldByLeft_26 : decode cX8_soldByLeft 26 = .ok (.istore_n 2, 1) := by decide +kernel
theorem dX8_soldByLeft_27 : decode cX8_soldByLeft 27 = .ok (.iload_n 2, 1) := by decide +kernel
theorem dX8_soldByLeft_28 : decode cX8_soldByLeft 28 = .ok (.ifCond .le 5, 3) := by decide +kernel
theorem dX8_soldByLeft_31 : decode cX8_soldByLeft 31 = .ok (.iload_n 2, 1) := by decide +kernel
theorem dX8_soldByLeft_32 : decode cX8_soldByLeft 32 = .ok (.ireturn, 1) := by decide +kernel
theorem dX8_soldByLeft_33 : decode cX8_soldByLeft 33 = .ok (.aload_n 0, 1) := by decide +kernel
theorem dX8_soldByLeft_34 : decode cX8_soldByLeft 34 = .ok (.iload_n 1, 1) := by decide +kernel
theorem dX8_soldByLeft_35 : decode cX8_soldByLeft 35 = .ok (.iconst 1, 1) := by decide +kernel
theorem dX8_soldByLeft_36 : decode cX8_soldByLeft 36 = .ok (.iadd, 1) := by decide +kernel
theorem dX8_soldByLeft_37 : decode cX8_soldByLeft 37 = .ok (.aload_n 0, 1) := by decide +kernel
theorem dX8_soldByLeft_38 : decode cX8_soldByLeft 38 = .ok (.getfield 38, 3) := by decide +kernel
theorem dX8_soldByLeft_41 : decode cX8_soldByLeft 41 = .ok (.getfield 156, 3) := by decide +kernel
theorem dX8_soldByLeft_44 : decode cX8_soldByLeft 44 = .ok (.iload_n 1, 1) := by decide +kernel
theorem dX8_soldByLeft_45 : decode cX8_soldByLeft 45 = .ok (.iaload, 1) := by decide +kernel
theorem dX8_soldByLeft_46 : decode cX8_soldByLeft 46 = .ok (.iload_n 1, 1) := by decide +kernel
theorem dX8_soldByLeft_47 : decode cX8_soldByLeft 47 = .ok (.aload_n 0, 1) := by decide +kernel
theorem dX8_soldByLeft_48 : decode cX8_soldByLeft 48 = .ok (.getfield 38, 3) := by decide +kernel
theorem dX8_soldByLeft_51 : decode cX8_soldByLeft 51 = .ok (.getfield 153, 3) := by decide +kernel
theorem dX8_soldByLeft_54 : decode cX8_soldByLeft 54 = .ok (.iload_n 1, 1) := by decide +kernel
theorem dX8_soldByLeft_55 : decode cX8_soldByLeft 55 = .ok (.iaload, 1) := by decide +kernel
theorem dX8_soldByLeft_56 : decode cX8_soldByLeft 56 = .ok (.invokevirtual 347, 3) := by decide +kernel
theorem dX8_soldByLeft_59 : decode cX8_soldByLeft 59 = .ok (.ineg, 1) := by decide +kernel
theorem dX8_soldByLeft_60 : decode cX8_soldByLeft 60 = .ok (.ireturn, 1) := by decide +kernel
theorem dX8_inchesSold_0 : decode cX8_inchesSold 0 = .ok (.aload_n 0, 1) := by decide +kernel
theorem dX8_inchesSold_1 : decode cX8_inchesSold 1 = .ok (.getfield 10, 3) := by decide +kernel
theorem dX8_inchesSold_4 : decode cX8_inchesSold 4 = .ok (.iload_n 3, 1) := by decide +kernel
theorem dX8_inchesSold_5 : decode cX8_inchesSold 5 = .ok (.iconst 4, 1) := by decide +kernel
theorem dX8_inchesSold_6 : decode cX8_inchesSold 6 = .ok (.invokevirtual 114, 3) := by decide +kernel
theorem dX8_inchesSold_9 : decode cX8_inchesSold 9 = .ok (.aload_n 0, 1) := by decide +kernel
theorem dX8_inchesSold_10 : decode cX8_inchesSold 10 = .ok (.getfield 10, 3) := by decide +kernel
theorem dX8_inchesSold_13 : decode cX8_inchesSold 13 = .ok (.iload_n 1, 1) := by decide +kernel
theorem dX8_inchesSold_14 : decode cX8_inchesSold 14 = .ok (.iconst 3, 1) := by decide +kernel
theorem dX8_inchesSold_15 : decode cX8_inchesSold 15 = .ok (.invokevirtual 114, 3) := by decide +kernel
theorem dX8_inchesSold_18 : decode cX8_inchesSold 18 = .ok (.if_icmp .gt 5, 3) := by decide +kernel
theorem dX8_inchesSold_21 : decode cX8_inchesSold 21 = .ok (.iconst 0, 1) := by decide +kernel
theorem dX8_inchesSold_22 : decode cX8_inchesSold 22 = .ok (.ireturn, 1) := by decide +kernel
theorem dX8_inchesSold_23 : decode cX8_inchesSold 23 = .ok (.aload_n 0, 1) := by decide +kernel
theorem dX8_inchesSold_24 : decode cX8_inchesSold 24 = .ok (.getfield 10, 3) := by decide +kernel
theorem dX8_inchesSold_27 : decode cX8_inchesSold 27 = .ok (.iload_n 3, 1) := by decide +kernel
theorem dX8_inchesSold_28 : decode cX8_inchesSold 28 = .ok (.iconst 0, 1) := by decide +kernel
theorem dX8_inchesSold_29 : decode cX8_inchesSold 29 = .ok (.invokevirtual 114, 3) := by decide +kernel
theorem dX8_inchesSold_32 : decode cX8_inchesSold 32 = .ok (.iload 4, 2) := by decide +kernel
theorem dX8_inchesSold_34 : decode cX8_inchesSold 34 = .ok (.isub, 1) := by decide +kernel
theorem dX8_inchesSold_35 : decode cX8_inchesSold 35 = .ok (.istore 5, 2) := by decide +kernel
theorem dX8_inchesSold_37 : decode cX8_inchesSold 37 = .ok (.iconst 0, 1) := by decide +kernel
theorem dX8_inchesSold_38 : decode cX8_inchesSold 38 = .ok (.iload_n 2, 1) := by decide +kernel
theorem dX8_inchesSold_39 : decode cX8_inchesSold 39 = .ok (.iload 5, 2) := by decide +kernel
theorem dX8_inchesSold_41 : decode cX8_inchesSold 41 = .ok (.invokestatic 344, 3) := by decide +kernel
theorem dX8_inchesSold_44 : decode cX8_inchesSold 44 = .ok (.invokestatic 351, 3) := by decide +kernel
theorem dX8_inchesSold_47 : decode cX8_inchesSold 47 = .ok (.ireturn, 1) := by decide +kernel
theorem dX9_within_0 : decode cX9_within 0 = .ok (.lload_n 0, 1) := by decide +kernel
theorem dX9_within_1 : decode cX9_within 1 = .ok (.lload_n 2, 1) := by decide +kernel
theorem dX9_within_2 : decode cX9_within 2 = .ok (.lcmp, 1) := by decide +kernel
theorem dX9_within_3 : decode cX9_within 3 = .ok (.ifCond .lt 14, 3) := by decide +kernel
theorem dX9_within_6 : decode cX9_within 6 = .ok (.lload_n 0, 1) := by decide +kernel
theorem dX9_within_7 : decode cX9_within 7 = .ok (.lload 4, 2) := by decide +kernel
theorem dX9_within_9 : decode cX9_within 9 = .ok (.lcmp, 1) := by decide +kernel
theorem dX9_within_10 : decode cX9_within 10 = .ok (.ifCond .gt 7, 3) := by decide +kernel
theorem dX9_within_13 : decode cX9_within 13 = .ok (.iconst 1, 1) := by decide +kernel
theorem dX9_within_14 : decode cX9_within 14 = .ok (.goto 4, 3) := by decide +kernel
theorem dX9_within_17 : decode cX9_within 17 = .ok (.iconst 0, 1) := by decide +kernel
theorem dX9_within_18 : decode cX9_within 18 = .ok (.ireturn, 1) := by decide +kernel
theorem dX9_init_0 : decode cX9_init 0 = .ok (.aload_n 0, 1) := by decide +kernel
theorem dX9_init_1 : decode cX9_init 1 = .ok (.invokespecial 3, 3) := by decide +kernel
theorem dX9_init_4 : decode cX9_init 4 = .ok (.aload_n 0, 1) := by decide +kernel
theorem dX9_init_5 : decode cX9_init 5 = .ok (.bipush 40, 2) := by decide +kernel
theorem dX9_init_7 : decode cX9_init 7 = .ok (.newarray .int, 2) := by decide +kernel
theorem dX9_init_9 : decode cX9_init 9 = .ok (.putfield 9, 3) := by decide +kernel
theorem dX9_init_12 : decode cX9_init 12 = .ok (.aload_n 0, 1) := by decide +kernel
theorem dX9_init_13 : decode cX9_init 13 = .ok (.bipush 40, 2) := by decide +kernel
theorem dX9_init_15 : decode cX9_init 15 = .ok (.newarray .int, 2) := by decide +kernel
theorem dX9_init_17 : decode cX9_init 17 = .ok (.putfield 13, 3) := by decide +kernel
theorem dX9_init_20 : decode cX9_init 20 = .ok (.aload_n 0, 1) := by decide +kernel
theorem dX9_init_21 : decode cX9_init 21 = .ok (.bipush 40, 2) := by decide +kernel
theorem dX9_init_23 : decode cX9_init 23 = .ok (.newarray .int, 2) := by decide +kernel
theorem dX9_init_25 : decode cX9_init 25 = .ok (.putfield 16, 3) := by decide +kernel
theorem dX9_init_28 : decode cX9_init 28 = .ok (.aload_n 0, 1) := by decide +kernel
theorem dX9_init_29 : decode cX9_init 29 = .ok (.bipush 40, 2) := by decide +kernel
theorem dX9_init_31 : decode cX9_init 31 = .ok (.newarray .int, 2) := by decide +kernel
theorem dX9_init_33 : decode cX9_init 33 = .ok (.putfield 19, 3) := by decide +kernel
theorem dX9_init_36 : decode cX9_init 36 = .ok (.aload_n 0, 1) := by decide +kernel
theorem dX9_init_37 : decode cX9_init 37 = .ok (.bipush 7, 2) := by decide +kernel
theorem dX9_init_39 : decode cX9_init 39 = .ok (.newarray .int, 2) := by decide +kernel
theorem dX9_init_41 : decode cX9_init 41 = .ok (.putfield 22, 3) := by decide +kernel
theorem dX9_init_44 : decode cX9_init 44 = .ok (.aload_n 0, 1) := by decide +kernel
theorem dX9_init_45 : decode cX9_init 45 = .ok (.sipush 192, 3) := by decide +kernel
theorem dX9_init_48 : decode cX9_init 48 = .ok (.newarray .int, 2) := by decide +kernel
theorem dX9_init_50 : decode cX9_init 50 = .ok (.putfield 25, 3) := by decide +kernel
theorem dX9_init_53 : decode cX9_init 53 = .ok (.aload_n 0, 1) := by decide +kernel
theorem dX9_init_54 : decode cX9_init 54 = .ok (.bipush 14, 2) := by decide +kernel
theorem dX9_init_56 : decode cX9_init 56 = .ok (.newarray .int, 2) := by decide +kernel
theorem dX9_init_58 : decode cX9_init 58 = .ok (.putfield 28, 3) := by decide +kernel
theorem dX9_init_61 : decode cX9_init 61 = .ok (.aload_n 0, 1) := by decide +kernel
theorem dX9_init_62 : decode cX9_init 62 = .ok (.bipush 8, 2) := by decide +kernel
theorem dX9_init_64 : decode cX9_init 64 = .ok (.newarray .int, 2) := by decide +kernel
theorem dX9_init_66 : decode cX9_init 66 = .ok (.putfield 31, 3) := by decide +kernel
theorem dX9_init_69 : decode cX9_init 69 = .ok (.aload_n 0, 1) := by decide +kernel
theorem dX9_init_70 : decode cX9_init 70 = .ok (.bipush 8, 2) := by decide +kernel
theorem dX9_init_72 : decode cX9_init 72 = .ok (.newarray .int, 2) := by decide +kernel
theorem dX9_init_74 : decode cX9_init 74 = .ok (.putfield 34, 3) := by decide +kernel
theorem dX9_init_77 : decode cX9_init 77 = .ok (.aload_n 0, 1) := by decide +kernel
theorem dX9_init_78 : decode cX9_init 78 = .ok (.bipush 8, 2) := by decide +kernel
theorem dX9_init_80 : decode cX9_init 80 = .ok (.newarray .int, 2) := by decide +kernel
theorem dX9_init_82 : decode cX9_init 82 = .ok (.putfield 37, 3) := by decide +kernel
theorem dX9_init_85 : decode cX9_init 85 = .ok (.aload_n 0, 1) := by decide +kernel
theorem dX9_init_86 : decode cX9_init 86 = .ok (.bipush 120, 2) := by decide +kernel
theorem dX9_init_88 : decode cX9_init 88 = .ok (.newarray .int, 2) := by decide +kernel
theorem dX9_init_90 : decode cX9_init 90 = .ok (.putfield 40, 3) := by decide +kernel
theorem dX9_init_93 : decode cX9_init 93 = .ok (.aload_n 0, 1) := by decide +kernel
theorem dX9_init_94 : decode cX9_init 94 = .ok (.bipush 120, 2) := by decide +kernel
theorem dX9_init_96 : decode cX9_init 96 = .ok (.newarray .int, 2) := by decide +kernel
theorem dX9_init_98 : decode cX9_init 98 = .ok (.putfield 43, 3) := by decide +kernel
theorem dX9_init_101 : decode cX9_init 101 = .ok (.aload_n 0, 1) := by decide +kernel
theorem dX9_init_102 : decode cX9_init 102 = .ok (.bipush 9, 2) := by decide +kernel
theorem dX9_init_104 : decode cX9_init 104 = .ok (.newarray .int, 2) := by decide +kernel
theorem dX9_init_106 : decode cX9_init 106 = .ok (.putfield 46, 3) := by decide +kernel
theorem dX9_init_109 : decode cX9_init 109 = .ok (.aload_n 0, 1) := by decide +kernel
theorem dX9_init_110 : decode cX9_init 110 = .ok (.bipush 7, 2) := by decide +kernel
theorem dX9_init_112 : decode cX9_init 112 = .ok (.newarray .int, 2) := by decide +kernel
theorem dX9_init_114 : decode cX9_init 114 = .ok (.putfield 49, 3) := by decide +kernel
theorem dX9_init_117 : decode cX9_init 117 = .ok (.aload_n 0, 1) := by decide +kernel
theorem dX9_init_118 : decode cX9_init 118 = .ok (.bipush 8, 2) := by decide +kernel
theorem dX9_init_120 : decode cX9_init 120 = .ok (.newarray .int, 2) := by decide +kernel
theorem dX9_init_122 : decode cX9_init 122 = .ok (.putfield 52, 3) := by decide +kernel
theorem dX9_init_125 : decode cX9_init 125 = .ok (.aload_n 0, 1) := by decide +kernel
theorem dX9_init_126 : decode cX9_init 126 = .ok (.bipush 8, 2) := by decide +kernel
theorem dX9_init_128 : decode cX9_init 128 = .ok (.newarray .int, 2) := by decide +kernel
theorem dX9_init_130 : decode cX9_init 130 = .ok (.putfield 55, 3) := by decide +kernel
theorem dX9_init_133 : decode cX9_init 133 = .ok (.aload_n 0, 1) := by decide +kernel
theorem dX9_init_134 : decode cX9_init 134 = .ok (.sipush 336, 3) := by decide +kernel
theorem dX9_init_137 : decode cX9_init 137 = .ok (.newarray .int, 2) := by decide +kernel
theorem dX9_init_139 : decode cX9_init 139 = .ok (.putfield 58, 3) := by decide +kernel
theorem dX9_init_142 : decode cX9_init 142 = .ok (.aload_n 0, 1) := by decide +kernel
theorem dX9_init_143 : decode cX9_init 143 = .ok (.sipush 168, 3) := by decide +kernel
theorem dX9_init_146 : decode cX9_init 146 = .ok (.newarray .int, 2) := by decide +kernel
theorem dX9_init_148 : decode cX9_init 148 = .ok (.putfield 61, 3) := by decide +kernel
theorem dX9_init_151 : decode cX9_init 151 = .ok (.aload_n 0, 1) := by decide +kernel
theorem dX9_init_152 : decode cX9_init 152 = .ok (.bipush 14, 2) := by decide +kernel
theorem dX9_init_154 : decode cX9_init 154 = .ok (.newarray .int, 2) := by decide +kernel
theorem dX9_init_156 : decode cX9_init 156 = .ok (.putfield 64, 3) := by decide +kernel
theorem dX9_init_159 : decode cX9_init 159 = .ok (.aload_n 0, 1) := by decide +kernel
theorem dX9_init_160 : decode cX9_init 160 = .ok (.bipush 14, 2) := by decide +kernel
theorem dX9_init_162 : decode cX9_init 162 = .ok (.newarray .int, 2) := by decide +kernel
theorem dX9_init_164 : decode cX9_init 164 = .ok (.putfield 67, 3) := by decide +kernel
theorem dX9_init_167 : decode cX9_init 167 = .ok (.aload_n 0, 1) := by decide +kernel
theorem dX9_init_168 : decode cX9_init 168 = .ok (.bipush 8, 2) := by decide +kernel
theorem dX9_init_170 : decode cX9_init 170 = .ok (.newarray .int, 2) := by decide +kernel
theorem dX9_init_172 : decode cX9_init 172 = .ok (.putfield 70, 3) := by decide +kernel
theorem dX9_init_175 : decode cX9_init 175 = .ok (.aload_n 0, 1) := by decide +kernel
theorem dX9_init_176 : decode cX9_init 176 = .ok (.bipush 8, 2) := by decide +kernel
theorem dX9_init_178 : decode cX9_init 178 = .ok (.newarray .int, 2) := by decide +kernel
theorem dX9_init_180 : decode cX9_init 180 = .ok (.putfield 73, 3) := by decide +kernel
theorem dX9_init_183 : decode cX9_init 183 = .ok (.aload_n 0, 1) := by decide +kernel
theorem dX9_init_184 : decode cX9_init 184 = .ok (.sipush 336, 3) := by decide +kernel
theorem dX9_init_187 : decode cX9_init 187 = .ok (.newarray .int, 2) := by decide +kernel
theorem dX9_init_189 : decode cX9_init 189 = .ok (.putfield 76, 3) := by decide +kernel
theorem dX9_init_192 : decode cX9_init 192 = .ok (.aload_n 0, 1) := by decide +kernel
theorem dX9_init_193 : decode cX9_init 193 = .ok (.sipush 168, 3) := by decide +kernel
theorem dX9_init_196 : decode cX9_init 196 = .ok (.newarray .int, 2) := by decide +kernel
theorem dX9_init_198 : decode cX9_init 198 = .ok (.putfield 79, 3) := by decide +kernel
theorem dX9_init_201 : decode cX9_init 201 = .ok (.aload_n 0, 1) := by decide +kernel
theorem dX9_init_202 : decode cX9_init 202 = .ok (.bipush 50, 2) := by decide +kernel
theorem dX9_init_204 : decode cX9_init 204 = .ok (.newarray .int, 2) := by decide +kernel
theorem dX9_init_206 : decode cX9_init 206 = .ok (.putfield 82, 3) := by decide +kernel
theorem dX9_init_209 : decode cX9_init 209 = .ok (.aload_n 0, 1) := by decide +kernel
theorem dX9_init_210 : decode cX9_init 210 = .ok (.bipush 24, 2) := by decide +kernel
theorem dX9_init_212 : decode cX9_init 212 = .ok (.newarray .int, 2) := by decide +kernel
theorem dX9_init_214 : decode cX9_init 214 = .ok (.putfield 85, 3) := by decide +kernel
theorem dX9_init_217 : decode cX9_init 217 = .ok (.aload_n 0, 1) := by decide +kernel
theorem dX9_init_218 : decode cX9_init 218 = .ok (.bipush 6, 2) := by decide +kernel
theorem dX9_init_220 : decode cX9_init 220 = .ok (.newarray .int, 2) := by decide +kernel
theorem dX9_init_222 : decode cX9_init 222 = .ok (.putfield 88, 3) := by decide +kernel
theorem dX9_init_225 : decode cX9_init 225 = .ok (.aload_n 0, 1) := by decide +kernel
theorem dX9_init_226 : decode cX9_init 226 = .ok (.bipush 6, 2) := by decide +kernel
theorem dX9_init_228 : decode cX9_init 228 = .ok (.newarray .int, 2) := by decide +kernel
theorem dX9_init_230 : decode cX9_init 230 = .ok (.putfield 91, 3) := by decide +kernel
theorem dX9_init_233 : decode cX9_init 233 = .ok (.aload_n 0, 1) := by decide +kernel
theorem dX9_init_234 : decode cX9_init 234 = .ok (.sipush 360, 3) := by decide +kernel
theorem dX9_init_237 : decode cX9_init 237 = .ok (.newarray .long, 2) := by decide +kernel
theorem dX9_init_239 : decode cX9_init 239 = .ok (.putfield 94, 3) := by decide +kernel
theorem dX9_init_242 : decode cX9_init 242 = .ok (.aload_n 0, 1) := by decide +kernel
theorem dX9_init_243 : decode cX9_init 243 = .ok (.bipush 60, 2) := by decide +kernel
theorem dX9_init_245 : decode cX9_init 245 = .ok (.newarray .long, 2) := by decide +kernel
theorem dX9_init_247 : decode cX9_init 247 = .ok (.putfield 98, 3) := by decide +kernel
theorem dX9_init_250 : decode cX9_init 250 = .ok (.iconst 0, 1) := by decide +kernel
theorem dX9_init_251 : decode cX9_init 251 = .ok (.istore_n 1, 1) := by decide +kernel
theorem dX9_init_252 : decode cX9_init 252 = .ok (.iload_n 1, 1) := by decide +kernel
theorem dX9_init_253 : decode cX9_init 253 = .ok (.bipush 6, 2) := by decide +kernel
theorem dX9_init_255 : decode cX9_init 255 = .ok (.if_icmp .ge 16, 3) := by decide +kernel
theorem dX9_init_258 : decode cX9_init 258 = .ok (.aload_n 0, 1) := by decide +kernel
theorem dX9_init_259 : decode cX9_init 259 = .ok (.getfield 88, 3) := by decide +kernel
theorem dX9_init_262 : decode cX9_init 262 = .ok (.iload_n 1, 1) := by decide +kernel
theorem dX9_init_263 : decode cX9_init 263 = .ok (.iconst (-1), 1) := by decide +kernel
theorem dX9_init_264 : decode cX9_init 264 = .ok (.iastore, 1) := by decide +kernel
theorem dX9_init_265 : decode cX9_init 265 = .ok (.iinc 1 1, 3) := by decide +kernel
theorem dX9_init_268 : decode cX9_init 268 = .ok (.goto (-16), 3) := by decide +kernel
theorem dX9_init_271 : decode cX9_init 271 = .ok (.aload_n 0, 1) := by decide +kernel
theorem dX9_init_272 : decode cX9_init 272 = .ok (.iconst (-1), 1) := by decide +kernel
theorem dX9_init_273 : decode cX9_init 273 = .ok (.putfield 101, 3) := by decide +kernel
theorem dX9_init_276 : decode cX9_init 276 = .ok (.iconst 0, 1) := by decide +kernel
theorem dX9_init_277 : decode cX9_init 277 = .ok (.istore_n 1, 1) := by decide +kernel
theorem dX9_init_278 : decode cX9_init 278 = .ok (.iload_n 1, 1) := by decide +kernel
theorem dX9_init_279 : decode cX9_init 279 = .ok (.bipush 7, 2) := by decide +kernel
theorem dX9_init_281 : decode cX9_init 281 = .ok (.if_icmp .ge 16, 3) := by decide +kernel
theorem dX9_init_284 : decode cX9_init 284 = .ok (.aload_n 0, 1) := by decide +kernel
theorem dX9_init_285 : decode cX9_init 285 = .ok (.getfield 22, 3) := by decide +kernel
theorem dX9_init_288 : decode cX9_init 288 = .ok (.iload_n 1, 1) := by decide +kernel
theorem dX9_init_289 : decode cX9_init 289 = .ok (.iconst 2, 1) := by decide +kernel
theorem dX9_init_290 : decode cX9_init 290 = .ok (.iastore, 1) := by decide +kernel
theorem dX9_init_291 : decode cX9_init 291 = .ok (.iinc 1 1, 3) := by decide +kernel
theorem dX9_init_294 : decode cX9_init 294 = .ok (.goto (-16), 3) := by decide +kernel
theorem dX9_init_297 : decode cX9_init 297 = .ok (.iconst 0, 1) := by decide +kernel
theorem dX9_init_298 : decode cX9_init 298 = .ok (.istore_n 1, 1) := by decide +kernel
theorem dX9_init_299 : decode cX9_init 299 = .ok (.iload_n 1, 1) := by decide +kernel
theorem dX9_init_300 : decode cX9_init 300 = .ok (.bipush 8, 2) := by decide +kernel
theorem dX9_init_302 : decode cX9_init 302 = .ok (.if_icmp .ge 16, 3) := by decide +kernel
theorem dX9_init_305 : decode cX9_init 305 = .ok (.aload_n 0, 1) := by decide +kernel
theorem dX9_init_306 : decode cX9_init 306 = .ok (.getfield 37, 3) := by decide +kernel
theorem dX9_init_309 : decode cX9_init 309 = .ok (.iload_n 1, 1) := by decide +kernel
theorem dX9_init_310 : decode cX9_init 310 = .ok (.iload_n 1, 1) := by decide +kernel
theorem dX9_init_311 : decode cX9_init 311 = .ok (.iastore, 1) := by decide +kernel
theorem dX9_init_312 : decode cX9_init 312 = .ok (.iinc 1 1, 3) := by decide +kernel
theorem dX9_init_315 : decode cX9_init 315 = .ok (.goto (-16), 3) := by decide +kernel
theorem dX9_init_318 : decode cX9_init 318 = .ok (.return_, 1) := by decide +kernel
theorem dX9_becomes_0 : decode cX9_becomes 0 = .ok (.aload_n 0, 1) := by decide +kernel
theorem dX9_becomes_1 : decode cX9_becomes 1 = .ok (.getfield 9, 3) := by decide +kernel
theorem dX9_becomes_4 : decode cX9_becomes 4 = .ok (.iload_n 1, 1) := by decide +kernel
theorem dX9_becomes_5 : decode cX9_becomes 5 = .ok (.iaload, 1) := by decide +kernel
theorem dX9_becomes_6 : decode cX9_becomes 6 = .ok (.istore_n 3, 1) := by decide +kernel
theorem dX9_becomes_7 : decode cX9_becomes 7 = .ok (.iload_n 3, 1) := by decide +kernel
theorem dX9_becomes_8 : decode cX9_becomes 8 = .ok (.iload_n 2, 1) := by decide +kernel
theorem dX9_becomes_9 : decode cX9_becomes 9 = .ok (.if_icmp .ne 5, 3) := by decide +kernel
theorem dX9_becomes_12 : decode cX9_becomes 12 = .ok (.iload_n 3, 1) := by decide +kernel
theorem dX9_becomes_13 : decode cX9_becomes 13 = .ok (.ireturn, 1) := by decide +kernel
theorem dX9_becomes_14 : decode cX9_becomes 14 = .ok (.aload_n 0, 1) := by decide +kernel
theorem dX9_becomes_15 : decode cX9_becomes 15 = .ok (.getfield 105, 3) := by decide +kernel
theorem dX9_becomes_18 : decode cX9_becomes 18 = .ok (.bipush 40, 2) := by decide +kernel
theorem dX9_becomes_20 : decode cX9_becomes 20 = .ok (.if_icmp .ne 77, 3) := by decide +kernel
theorem dX9_becomes_23 : decode cX9_becomes 23 = .ok (.iconst 1, 1) := by decide +kernel
theorem dX9_becomes_24 : decode cX9_becomes 24 = .ok (.istore 4, 2) := by decide +kernel
theorem dX9_becomes_26 : decode cX9_becomes 26 = .ok (.iload 4, 2) := by decide +kernel
theorem dX9_becomes_28 : decode cX9_becomes 28 = .ok (.bipush 40, 2) := by decide +kernel
theorem dX9_becomes_30 : decode cX9_becomes 30 = .ok (.if_icmp .ge 57, 3) := by decide +kernel
theorem dX9_becomes_33 : decode cX9_becomes 33 = .ok (.aload_n 0, 1) := by decide +kernel
theorem dX9_becomes_34 : decode cX9_becomes 34 = .ok (.getfield 13, 3) := by decide +kernel
theorem dX9_becomes_37 : decode cX9_becomes 37 = .ok (.iload 4, 2) := by decide +kernel
theorem dX9_becomes_39 : decode cX9_becomes 39 = .ok (.iconst 1, 1) := by decide +kernel
theorem dX9_becomes_40 : decode cX9_becomes 40 = .ok (.isub, 1) := by decide +kernel
theorem dX9_becomes_41 : decode cX9_becomes 41 = .ok (.aload_n 0, 1) := by decide +kernel
theorem dX9_becomes_42 : decode cX9_becomes 42 = .ok (.getfield 13, 3) := by decide +kernel
theorem dX9_becomes_45 : decode cX9_becomes 45 = .ok (.iload 4, 2) := by decide +kernel
theorem dX9_becomes_47 : decode cX9_becomes 47 = .ok (.iaload, 1) := by decide +kernel
theorem dX9_becomes_48 : decode cX9_becomes 48 = .ok (.iastore, 1) := by decide +kernel
theorem dX9_becomes_49 : decode cX9_becomes 49 = .ok (.aload_n 0, 1) := by decide +kernel
theorem dX9_becomes_50 : decode cX9_becomes 50 = .ok (.getfield 16, 3) := by decide +kernel
theorem dX9_becomes_53 : decode cX9_becomes 53 = .ok (.iload 4, 2) := by decide +kernel
theorem dX9_becomes_55 : decode cX9_becomes 55 = .ok (.iconst 1, 1) := by decide +kernel
theorem dX9_becomes_56 : decode cX9_becomes 56 = .ok (.isub, 1) := by decide +kernel
theorem dX9_becomes_57 : decode cX9_becomes 57 = .ok (.aload_n 0, 1) := by decide +kernel
theorem dX9_becomes_58 : decode cX9_becomes 58 = .ok (.getfield 16, 3) := by decide +kernel
theorem dX9_becomes_61 : decode cX9_becomes 61 = .ok (.iload 4, 2) := by decide +kernel
theorem dX9_becomes_63 : decode cX9_becomes 63 = .ok (.iaload, 1) := by decide +kernel
theorem dX9_becomes_64 : decode cX9_becomes 64 = .ok (.iastore, 1) := by decide +kernel
theorem dX9_becomes_65 : decode cX9_becomes 65 = .ok (.aload_n 0, 1) := by decide +kernel
theorem dX9_becomes_66 : decode cX9_becomes 66 = .ok (.getfield 19, 3) := by decide +kernel
theorem dX9_becomes_69 : decode cX9_becomes 69 = .ok (.iload 4, 2) := by decide +kernel
theorem dX9_becomes_71 : decode cX9_becomes 71 = .ok (.iconst 1, 1) := by decide +kernel
theorem dX9_becomes_72 : decode cX9_becomes 72 = .ok (.isub, 1) := by decide +kernel
theorem dX9_becomes_73 : decode cX9_becomes 73 = .ok (.aload_n 0, 1) := by decide +kernel
theorem dX9_becomes_74 : decode cX9_becomes 74 = .ok (.getfield 19, 3) := by decide +kernel
theorem dX9_becomes_77 : decode cX9_becomes 77 = .ok (.iload 4, 2) := by decide +kernel
theorem dX9_becomes_79 : decode cX9_becomes 79 = .ok (.iaload, 1) := by decide +kernel
theorem dX9_becomes_80 : decode cX9_becomes 80 = .ok (.iastore, 1) := by decide +kernel
theorem dX9_becomes_81 : decode cX9_becomes 81 = .ok (.iinc 4 1, 3) := by decide +kernel
theorem dX9_becomes_84 : decode cX9_becomes 84 = .ok (.goto (-58), 3) := by decide +kernel
theorem dX9_becomes_87 : decode cX9_becomes 87 = .ok (.aload_n 0, 1) := by decide +kernel
theorem dX9_becomes_88 : decode cX9_becomes 88 = .ok (.dup, 1) := by decide +kernel
theorem dX9_becomes_89 : decode cX9_becomes 89 = .ok (.getfield 105, 3) := by decide +kernel
theorem dX9_becomes_92 : decode cX9_becomes 92 = .ok (.iconst 1, 1) := by decide +kernel
theorem dX9_becomes_93 : decode cX9_becomes 93 = .ok (.isub, 1) := by decide +kernel
theorem dX9_becomes_94 : decode cX9_becomes 94 = .ok (.putfield 105, 3) := by decide +kernel
theorem dX9_becomes_97 : decode cX9_becomes 97 = .ok (.aload_n 0, 1) := by decide +kernel
theorem dX9_becomes_98 : decode cX9_becomes 98 = .ok (.getfield 13, 3) := by decide +kernel
theorem dX9_becomes_101 : decode cX9_becomes 101 = .ok (.aload_n 0, 1) := by decide +kernel
theorem dX9_becomes_102 : decode cX9_becomes 102 = .ok (.getfield 105, 3) := by decide +kernel
theorem dX9_becomes_105 : decode cX9_becomes 105 = .ok (.iload_n 1, 1) := by decide +kernel
theorem dX9_becomes_106 : decode cX9_becomes 106 = .ok (.iastore, 1) := by decide +kernel
theorem dX9_becomes_107 : decode cX9_becomes 107 = .ok (.aload_n 0, 1) := by decide +kernel
theorem dX9_becomes_108 : decode cX9_becomes 108 = .ok (.getfield 16, 3) := by decide +kernel
theorem dX9_becomes_111 : decode cX9_becomes 111 = .ok (.aload_n 0, 1) := by decide +kernel
theorem dX9_becomes_112 : decode cX9_becomes 112 = .ok (.getfield 105, 3) := by decide +kernel
theorem dX9_becomes_115 : decode cX9_becomes 115 = .ok (.iload_n 3, 1) := by decide +kernel
theorem dX9_becomes_116 : decode cX9_becomes 116 = .ok (.iastore, 1) := by decide +kernel
theorem dX9_becomes_117 : decode cX9_becomes 117 = .ok (.aload_n 0, 1) := by decide +kernel
theorem dX9_becomes_118 : decode cX9_becomes 118 = .ok (.getfield 19, 3) := by decide +kernel
theorem dX9_becomes_121 : decode cX9_becomes 121 = .ok (.aload_n 0, 1) := by decide +kernel
theorem dX9_becomes_122 : decode cX9_becomes 122 = .ok (.getfield 105, 3) := by decide +kernel
theorem dX9_becomes_125 : decode cX9_becomes 125 = .ok (.iload_n 2, 1) := by decide +kernel
theorem dX9_becomes_126 : decode cX9_becomes 126 = .ok (.iastore, 1) := by decide +kernel
theorem dX9_becomes_127 : decode cX9_becomes 127 = .ok (.aload_n 0, 1) := by decide +kernel
theorem dX9_becomes_128 : decode cX9_becomes 128 = .ok (.dup, 1) := by decide +kernel
theorem dX9_becomes_129 : decode cX9_becomes 129 = .ok (.getfield 105, 3) := by decide +kernel
theorem dX9_becomes_132 : decode cX9_becomes 132 = .ok (.iconst 1, 1) := by decide +kernel
theorem dX9_becomes_133 : decode cX9_becomes 133 = .ok (.iadd, 1) := by decide +kernel
theorem dX9_becomes_134 : decode cX9_becomes 134 = .ok (.putfield 105, 3) := by decide +kernel
theorem dX9_becomes_137 : decode cX9_becomes 137 = .ok (.aload_n 0, 1) := by decide +kernel
theorem dX9_becomes_138 : decode cX9_becomes 138 = .ok (.aload_n 0, 1) := by decide +kernel
theorem dX9_becomes_139 : decode cX9_becomes 139 = .ok (.getfield 105, 3) := by decide +kernel
theorem dX9_becomes_142 : decode cX9_becomes 142 = .ok (.putfield 108, 3) := by decide +kernel
theorem dX9_becomes_145 : decode cX9_becomes 145 = .ok (.aload_n 0, 1) := by decide +kernel
theorem dX9_becomes_146 : decode cX9_becomes 146 = .ok (.getfield 9, 3) := by decide +kernel
theorem dX9_becomes_149 : decode cX9_becomes 149 = .ok (.iload_n 1, 1) := by decide +kernel
theorem dX9_becomes_150 : decode cX9_becomes 150 = .ok (.iload_n 2, 1) := by decide +kernel
theorem dX9_becomes_151 : decode cX9_becomes 151 = .ok (.iastore, 1) := by decide +kernel
theorem dX9_becomes_152 : decode cX9_becomes 152 = .ok (.iload_n 3, 1) := by decide +kernel
theorem dX9_becomes_153 : decode cX9_becomes 153 = .ok (.ireturn, 1) := by decide +kernel
theorem dX9_undo_0 : decode cX9_undo 0 = .ok (.aload_n 0, 1) := by decide +kernel
theorem dX9_undo_1 : decode cX9_undo 1 = .ok (.getfield 105, 3) := by decide +kernel
theorem dX9_undo_4 : decode cX9_undo 4 = .ok (.ifCond .ne 6, 3) := by decide +kernel
theorem dX9_undo_7 : decode cX9_undo 7 = .ok (.bipush (-5), 2) := by decide +kernel
theorem dX9_undo_9 : decode cX9_undo 9 = .ok (.ireturn, 1) := by decide +kernel
theorem dX9_undo_10 : decode cX9_undo 10 = .ok (.aload_n 0, 1) := by decide +kernel
theorem dX9_undo_11 : decode cX9_undo 11 = .ok (.dup, 1) := by decide +kernel
theorem dX9_undo_12 : decode cX9_undo 12 = .ok (.getfield 105, 3) := by decide +kernel
theorem dX9_undo_15 : decode cX9_undo 15 = .ok (.iconst 1, 1) := by decide +kernel
theorem dX9_undo_16 : decode cX9_undo 16 = .ok (.isub, 1) := by decide +kernel
theorem dX9_undo_17 : decode cX9_undo 17 = .ok (.putfield 105, 3) := by decide +kernel
theorem dX9_undo_20 : decode cX9_undo 20 = .ok (.aload_n 0, 1) := by decide +kernel
theorem dX9_undo_21 : decode cX9_undo 21 = .ok (.getfield 9, 3) := by decide +kernel
theorem dX9_undo_24 : decode cX9_undo 24 = .ok (.aload_n 0, 1) := by decide +kernel
theorem dX9_undo_25 : decode cX9_undo 25 = .ok (.getfield 13, 3) := by decide +kernel
theorem dX9_undo_28 : decode cX9_undo 28 = .ok (.aload_n 0, 1) := by decide +kernel
theorem dX9_undo_29 : decode cX9_undo 29 = .ok (.getfield 105, 3) := by decide +kernel
theorem dX9_undo_32 : decode cX9_undo 32 = .ok (.iaload, 1) := by decide +kernel
theorem dX9_undo_33 : decode cX9_undo 33 = .ok (.aload_n 0, 1) := by decide +kernel
theorem dX9_undo_34 : decode cX9_undo 34 = .ok (.getfield 16, 3) := by decide +kernel
theorem dX9_undo_37 : decode cX9_undo 37 = .ok (.aload_n 0, 1) := by decide +kernel
theorem dX9_undo_38 : decode cX9_undo 38 = .ok (.getfield 105, 3) := by decide +kernel
theorem dX9_undo_41 : decode cX9_undo 41 = .ok (.iaload, 1) := by decide +kernel
theorem dX9_undo_42 : decode cX9_undo 42 = .ok (.iastore, 1) := by decide +kernel
theorem dX9_undo_43 : decode cX9_undo 43 = .ok (.aload_n 0, 1) := by decide +kernel
theorem dX9_undo_44 : decode cX9_undo 44 = .ok (.getfield 105, 3) := by decide +kernel
theorem dX9_undo_47 : decode cX9_undo 47 = .ok (.ireturn, 1) := by decide +kernel
theorem dX9_redo_0 : decode cX9_redo 0 = .ok (.aload_n 0, 1) := by decide +kernel
theorem dX9_redo_1 : decode cX9_redo 1 = .ok (.getfield 105, 3) := by decide +kernel
theorem dX9_redo_4 : decode cX9_redo 4 = .ok (.aload_n 0, 1) := by decide +kernel
theorem dX9_redo_5 : decode cX9_redo 5 = .ok (.getfield 108, 3) := by decide +kernel
theorem dX9_redo_8 : decode cX9_redo 8 = .ok (.if_icmp .ne 6, 3) := by decide +kernel
theorem dX9_redo_11 : decode cX9_redo 11 = .ok (.bipush (-5), 2) := by decide +kernel
theorem dX9_redo_13 : decode cX9_redo 13 = .ok (.ireturn, 1) := by decide +kernel
theorem dX9_redo_14 : decode cX9_redo 14 = .ok (.aload_n 0, 1) := by decide +kernel
theorem dX9_redo_15 : decode cX9_redo 15 = .ok (.getfield 9, 3) := by decide +kernel
theorem dX9_redo_18 : decode cX9_redo 18 = .ok (.aload_n 0, 1) := by decide +kernel
theorem dX9_redo_19 : decode cX9_redo 19 = .ok (.getfield 13, 3) := by decide +kernel
theorem dX9_redo_22 : decode cX9_redo 22 = .ok (.aload_n 0, 1) := by decide +kernel
theorem dX9_redo_23 : decode cX9_redo 23 = .ok (.getfield 105, 3) := by decide +kernel
theorem dX9_redo_26 : decode cX9_redo 26 = .ok (.iaload, 1) := by decide +kernel
theorem dX9_redo_27 : decode cX9_redo 27 = .ok (.aload_n 0, 1) := by decide +kernel
theorem dX9_redo_28 : decode cX9_redo 28 = .ok (.getfield 19, 3) := by decide +kernel
theorem dX9_redo_31 : decode cX9_redo 31 = .ok (.aload_n 0, 1) := by decide +kernel
theorem dX9_redo_32 : decode cX9_redo 32 = .ok (.getfield 105, 3) := by decide +kernel
theorem dX9_redo_35 : decode cX9_redo 35 = .ok (.iaload, 1) := by decide +kernel
theorem dX9_redo_36 : decode cX9_redo 36 = .ok (.iastore, 1) := by decide +kernel
theorem dX9_redo_37 : decode cX9_redo 37 = .ok (.aload_n 0, 1) := by decide +kernel
theorem dX9_redo_38 : decode cX9_redo 38 = .ok (.dup, 1) := by decide +kernel
theorem dX9_redo_39 : decode cX9_redo 39 = .ok (.getfield 105, 3) := by decide +kernel
theorem dX9_redo_42 : decode cX9_redo 42 = .ok (.iconst 1, 1) := by decide +kernel
theorem dX9_redo_43 : decode cX9_redo 43 = .ok (.iadd, 1) := by decide +kernel
theorem dX9_redo_44 : decode cX9_redo 44 = .ok (.putfield 105, 3) := by decide +kernel
theorem dX9_redo_47 : decode cX9_redo 47 = .ok (.aload_n 0, 1) := by decide +kernel
theorem dX9_redo_48 : decode cX9_redo 48 = .ok (.getfield 108, 3) := by decide +kernel
theorem dX9_redo_51 : decode cX9_redo 51 = .ok (.aload_n 0, 1) := by decide +kernel
theorem dX9_redo_52 : decode cX9_redo 52 = .ok (.getfield 105, 3) := by decide +kernel
theorem dX9_redo_55 : decode cX9_redo 55 = .ok (.isub, 1) := by decide +kernel
theorem dX9_redo_56 : decode cX9_redo 56 = .ok (.ireturn, 1) := by decide +kernel
theorem dX9_isSitter_0 : decode cX9_isSitter 0 = .ok (.iload_n 1, 1) := by decide +kernel
theorem dX9_isSitter_1 : decode cX9_isSitter 1 = .ok (.i2l, 1) := by decide +kernel
theorem dX9_isSitter_2 : decode cX9_isSitter 2 = .ok (.lconst 0, 1) := by decide +kernel
theorem dX9_isSitter_3 : decode cX9_isSitter 3 = .ok (.aload_n 0, 1) := by decide +kernel
theorem dX9_isSitter_4 : decode cX9_isSitter 4 = .ok (.getfield 111, 3) := by decide +kernel
theorem dX9_isSitter_7 : decode cX9_isSitter 7 = .ok (.iconst 1, 1) := by decide +kernel
theorem dX9_isSitter_8 : decode cX9_isSitter 8 = .ok (.isub, 1) := by decide +kernel
theorem dX9_isSitter_9 : decode cX9_isSitter 9 = .ok (.i2l, 1) := by decide +kernel
theorem dX9_isSitter_10 : decode cX9_isSitter 10 = .ok (.invokestatic 114, 3) := by decide +kernel
theorem dX9_isSitter_13 : decode cX9_isSitter 13 = .ok (.ireturn, 1) := by decide +kernel
theorem dX9_rests_0 : decode cX9_rests 0 = .ok (.aload_n 0, 1) := by decide +kernel
theorem dX9_rests_1 : decode cX9_rests 1 = .ok (.getfield 111, 3) := by decide +kernel
theorem dX9_rests_4 : decode cX9_rests 4 = .ok (.iconst 2, 1) := by decide +kernel
theorem dX9_rests_5 : decode cX9_rests 5 = .ok (.if_icmp .ge 7, 3) := by decide +kernel
theorem dX9_rests_8 : decode cX9_rests 8 = .ok (.iconst 0, 1) := by decide +kernel
theorem dX9_rests_9 : decode cX9_rests 9 = .ok (.goto 9, 3) := by decide +kernel
theorem dX9_rests_12 : decode cX9_rests 12 = .ok (.aload_n 0, 1) := by decide +kernel
theorem dX9_rests_13 : decode cX9_rests 13 = .ok (.getfield 111, 3) := by decide +kernel
theorem dX9_rests_16 : decode cX9_rests 16 = .ok (.iconst 1, 1) := by decide +kernel
theorem dX9_rests_17 : decode cX9_rests 17 = .ok (.isub, 1) := by decide +kernel
theorem dX9_rests_18 : decode cX9_rests 18 = .ok (.ireturn, 1) := by decide +kernel
theorem dX9_isRest_0 : decode cX9_isRest 0 = .ok (.iload_n 1, 1) := by decide +kernel
theorem dX9_isRest_1 : decode cX9_isRest 1 = .ok (.i2l, 1) := by decide +kernel
theorem dX9_isRest_2 : decode cX9_isRest 2 = .ok (.lconst 0, 1) := by decide +kernel
theorem dX9_isRest_3 : decode cX9_isRest 3 = .ok (.aload_n 0, 1) := by decide +kernel
theorem dX9_isRest_4 : decode cX9_isRest 4 = .ok (.invokevirtual 118, 3) := by decide +kernel
theorem dX9_isRest_7 : decode cX9_isRest 7 = .ok (.iconst 1, 1) := by decide +kernel
theorem dX9_isRest_8 : decode cX9_isRest 8 = .ok (.isub, 1) := by decide +kernel
theorem dX9_isRest_9 : decode cX9_isRest 9 = .ok (.i2l, 1) := by decide +kernel
theorem dX9_isRest_10 : decode cX9_isRest 10 = .ok (.invokestatic 114, 3) := by decide +kernel
theorem dX9_isRest_13 : decode cX9_isRest 13 = .ok (.ireturn, 1) := by decide +kernel
theorem dX9_isOne_0 : decode cX9_isOne 0 = .ok (.lload_n 0, 1) := by decide +kernel
theorem dX9_isOne_1 : decode cX9_isOne 1 = .ok (.lconst 0, 1) := by decide +kernel
theorem dX9_isOne_2 : decode cX9_isOne 2 = .ok (.ldc2_w 122, 3) := by decide +kernel
theorem dX9_isOne_5 : decode cX9_isOne 5 = .ok (.invokestatic 114, 3) := by decide +kernel
theorem dX9_isOne_8 : decode cX9_isOne 8 = .ok (.ifCond .eq 30, 3) := by decide +kernel
theorem dX9_isOne_11 : decode cX9_isOne 11 = .ok (.lload_n 2, 1) := by decide +kernel
theorem dX9_isOne_12 : decode cX9_isOne 12 = .ok (.lconst 0, 1) := by decide +kernel
theorem dX9_isOne_13 : decode cX9_isOne 13 = .ok (.ldc2_w 122, 3) := by decide +kernel
theorem dX9_isOne_16 : decode cX9_isOne 16 = .ok (.invokestatic 114, 3) := by decide +kernel
theorem dX9_isOne_19 : decode cX9_isOne 19 = .ok (.ifCond .eq 19, 3) := by decide +kernel
theorem dX9_isOne_22 : decode cX9_isOne 22 = .ok (.lload 4, 2) := by decide +kernel
theorem dX9_isOne_24 : decode cX9_isOne 24 = .ok (.lconst 0, 1) := by decide +kernel
theorem dX9_isOne_25 : decode cX9_isOne 25 = .ok (.ldc2_w 122, 3) := by decide +kernel
theorem dX9_isOne_28 : decode cX9_isOne 28 = .ok (.invokestatic 114, 3) := by decide +kernel
theorem dX9_isOne_31 : decode cX9_isOne 31 = .ok (.ifCond .eq 7, 3) := by decide +kernel
theorem dX9_isOne_34 : decode cX9_isOne 34 = .ok (.iconst 1, 1) := by decide +kernel
theorem dX9_isOne_35 : decode cX9_isOne 35 = .ok (.goto 4, 3) := by decide +kernel
theorem dX9_isOne_38 : decode cX9_isOne 38 = .ok (.iconst 0, 1) := by decide +kernel
theorem dX9_isOne_39 : decode cX9_isOne 39 = .ok (.ireturn, 1) := by decide +kernel
theorem dX9_adds_0 : decode cX9_adds 0 = .ok (.aload_n 0, 1) := by decide +kernel
theorem dX9_adds_1 : decode cX9_adds 1 = .ok (.getfield 9, 3) := by decide +kernel
theorem dX9_adds_4 : decode cX9_adds 4 = .ok (.aload_n 0, 1) := by decide +kernel
theorem dX9_adds_5 : decode cX9_adds 5 = .ok (.getfield 111, 3) := by decide +kernel
theorem dX9_adds_8 : decode cX9_adds 8 = .ok (.iload_n 1, 1) := by decide +kernel
theorem dX9_adds_9 : decode cX9_adds 9 = .ok (.iastore, 1) := by decide +kernel
theorem dX9_adds_10 : decode cX9_adds 10 = .ok (.aload_n 0, 1) := by decide +kernel
theorem dX9_adds_11 : decode cX9_adds 11 = .ok (.getfield 9, 3) := by decide +kernel
theorem dX9_adds_14 : decode cX9_adds 14 = .ok (.bipush 8, 2) := by decide +kernel
theorem dX9_adds_16 : decode cX9_adds 16 = .ok (.aload_n 0, 1) := by decide +kernel
theorem dX9_adds_17 : decode cX9_adds 17 = .ok (.getfield 111, 3) := by decide +kernel
theorem dX9_adds_20 : decode cX9_adds 20 = .ok (.iadd, 1) := by decide +kernel
theorem dX9_adds_21 : decode cX9_adds 21 = .ok (.iload_n 2, 1) := by decide +kernel
theorem dX9_adds_22 : decode cX9_adds 22 = .ok (.iastore, 1) := by decide +kernel
theorem dX9_adds_23 : decode cX9_adds 23 = .ok (.aload_n 0, 1) := by decide +kernel
theorem dX9_adds_24 : decode cX9_adds 24 = .ok (.getfield 9, 3) := by decide +kernel
theorem dX9_adds_27 : decode cX9_adds 27 = .ok (.bipush 16, 2) := by decide +kernel
theorem dX9_adds_29 : decode cX9_adds 29 = .ok (.aload_n 0, 1) := by decide +kernel
theorem dX9_adds_30 : decode cX9_adds 30 = .ok (.getfield 111, 3) := by decide +kernel
theorem dX9_adds_33 : decode cX9_adds 33 = .ok (.iadd, 1) := by decide +kernel
theorem dX9_adds_34 : decode cX9_adds 34 = .ok (.iload_n 3, 1) := by decide +kernel
theorem dX9_adds_35 : decode cX9_adds 35 = .ok (.iastore, 1) := by decide +kernel
theorem dX9_adds_36 : decode cX9_adds 36 = .ok (.aload_n 0, 1) := by decide +kernel
theorem dX9_adds_37 : decode cX9_adds 37 = .ok (.dup, 1) := by decide +kernel
theorem dX9_adds_38 : decode cX9_adds 38 = .ok (.getfield 111, 3) := by decide +kernel
theorem dX9_adds_41 : decode cX9_adds 41 = .ok (.iconst 1, 1) := by decide +kernel
theorem dX9_adds_42 : decode cX9_adds 42 = .ok (.iadd, 1) := by decide +kernel
theorem dX9_adds_43 : decode cX9_adds 43 = .ok (.putfield 111, 3) := by decide +kernel
theorem dX9_adds_46 : decode cX9_adds 46 = .ok (.return_, 1) := by decide +kernel
theorem dX9_sitter_0 : decode cX9_sitter 0 = .ok (.iload_n 1, 1) := by decide +kernel
theorem dX9_sitter_1 : decode cX9_sitter 1 = .ok (.ifCond .lt 27, 3) := by decide +kernel
theorem dX9_sitter_4 : decode cX9_sitter 4 = .ok (.iload_n 1, 1) := by decide +kernel
theorem dX9_sitter_5 : decode cX9_sitter 5 = .ok (.bipush 100, 2) := by decide +kernel
theorem dX9_sitter_7 : decode cX9_sitter 7 = .ok (.idiv, 1) := by decide +kernel
theorem dX9_sitter_8 : decode cX9_sitter 8 = .ok (.i2l, 1) := by decide +kernel
theorem dX9_sitter_9 : decode cX9_sitter 9 = .ok (.iload_n 1, 1) := by decide +kernel
theorem dX9_sitter_10 : decode cX9_sitter 10 = .ok (.bipush 10, 2) := by decide +kernel
theorem dX9_sitter_12 : decode cX9_sitter 12 = .ok (.idiv, 1) := by decide +kernel
theorem dX9_sitter_13 : decode cX9_sitter 13 = .ok (.bipush 10, 2) := by decide +kernel
theorem dX9_sitter_15 : decode cX9_sitter 15 = .ok (.irem, 1) := by decide +kernel
theorem dX9_sitter_16 : decode cX9_sitter 16 = .ok (.i2l, 1) := by decide +kernel
theorem dX9_sitter_17 : decode cX9_sitter 17 = .ok (.iload_n 1, 1) := by decide +kernel
theorem dX9_sitter_18 : decode cX9_sitter 18 = .ok (.bipush 10, 2) := by decide +kernel
theorem dX9_sitter_20 : decode cX9_sitter 20 = .ok (.irem, 1) := by decide +kernel
theorem dX9_sitter_21 : decode cX9_sitter 21 = .ok (.i2l, 1) := by decide +kernel
theorem dX9_sitter_22 : decode cX9_sitter 22 = .ok (.invokestatic 124, 3) := by decide +kernel
theorem dX9_sitter_25 : decode cX9_sitter 25 = .ok (.ifCond .ne 5, 3) := by decide +kernel
theorem dX9_sitter_28 : decode cX9_sitter 28 = .ok (.iconst (-1), 1) := by decide +kernel
theorem dX9_sitter_29 : decode cX9_sitter 29 = .ok (.ireturn, 1) := by decide +kernel
theorem dX9_sitter_30 : decode cX9_sitter 30 = .ok (.aload_n 0, 1) := by decide +kernel
theorem dX9_sitter_31 : decode cX9_sitter 31 = .ok (.getfield 127, 3) := by decide +kernel
theorem dX9_sitter_34 : decode cX9_sitter 34 = .ok (.ifCond .eq 6, 3) := by decide +kernel
theorem dX9_sitter_37 : decode cX9_sitter 37 = .ok (.bipush (-5), 2) := by decide +kernel
theorem dX9_sitter_39 : decode cX9_sitter 39 = .ok (.ireturn, 1) := by decide +kernel
theorem dX9_sitter_40 : decode cX9_sitter 40 = .ok (.aload_n 0, 1) := by decide +kernel
theorem dX9_sitter_41 : decode cX9_sitter 41 = .ok (.getfield 111, 3) := by decide +kernel
theorem dX9_sitter_44 : decode cX9_sitter 44 = .ok (.bipush 8, 2) := by decide +kernel
theorem dX9_sitter_46 : decode cX9_sitter 46 = .ok (.if_icmp .ne 6, 3) := by decide +kernel
theorem dX9_sitter_49 : decode cX9_sitter 49 = .ok (.bipush (-3), 2) := by decide +kernel
theorem dX9_sitter_51 : decode cX9_sitter 51 = .ok (.ireturn, 1) := by decide +kernel
theorem dX9_sitter_52 : decode cX9_sitter 52 = .ok (.aload_n 0, 1) := by decide +kernel
theorem dX9_sitter_53 : decode cX9_sitter 53 = .ok (.iload_n 1, 1) := by decide +kernel
theorem dX9_sitter_54 : decode cX9_sitter 54 = .ok (.bipush 100, 2) := by decide +kernel
theorem dX9_sitter_56 : decode cX9_sitter 56 = .ok (.idiv, 1) := by decide +kernel
theorem dX9_sitter_57 : decode cX9_sitter 57 = .ok (.iload_n 1, 1) := by decide +kernel
theorem dX9_sitter_58 : decode cX9_sitter 58 = .ok (.bipush 10, 2) := by decide +kernel
theorem dX9_sitter_60 : decode cX9_sitter 60 = .ok (.idiv, 1) := by decide +kernel
theorem dX9_sitter_61 : decode cX9_sitter 61 = .ok (.bipush 10, 2) := by decide +kernel
theorem dX9_sitter_63 : decode cX9_sitter 63 = .ok (.irem, 1) := by decide +kernel
theorem dX9_sitter_64 : decode cX9_sitter 64 = .ok (.iload_n 1, 1) := by decide +kernel
theorem dX9_sitter_65 : decode cX9_sitter 65 = .ok (.bipush 10, 2) := by decide +kernel
theorem dX9_sitter_67 : decode cX9_sitter 67 = .ok (.irem, 1) := by decide +kernel
theorem dX9_sitter_68 : decode cX9_sitter 68 = .ok (.invokevirtual 130, 3) := by decide +kernel
theorem dX9_sitter_71 : decode cX9_sitter 71 = .ok (.aload_n 0, 1) := by decide +kernel
theorem dX9_sitter_72 : decode cX9_sitter 72 = .ok (.getfield 111, 3) := by decide +kernel
theorem dX9_sitter_75 : decode cX9_sitter 75 = .ok (.iconst 1, 1) := by decide +kernel
theorem dX9_sitter_76 : decode cX9_sitter 76 = .ok (.isub, 1) := by decide +kernel
theorem dX9_sitter_77 : decode cX9_sitter 77 = .ok (.ireturn, 1) := by decide +kernel
theorem dX9_sitters_0 : decode cX9_sitters 0 = .ok (.iload_n 1, 1) := by decide +kernel
theorem dX9_sitters_1 : decode cX9_sitters 1 = .ok (.invokestatic 134, 3) := by decide +kernel
theorem dX9_sitters_4 : decode cX9_sitters 4 = .ok (.ifCond .eq 15, 3) := by decide +kernel
theorem dX9_sitters_7 : decode cX9_sitters 7 = .ok (.iload_n 3, 1) := by decide +kernel
theorem dX9_sitters_8 : decode cX9_sitters 8 = .ok (.i2l, 1) := by decide +kernel
theorem dX9_sitters_9 : decode cX9_sitters 9 = .ok (.lconst 1, 1) := by decide +kernel
theorem dX9_sitters_10 : decode cX9_sitters 10 = .ok (.ldc2_w 138, 3) := by decide +kernel
theorem dX9_sitters_13 : decode cX9_sitters 13 = .ok (.invokestatic 114, 3) := by decide +kernel
theorem dX9_sitters_16 : decode cX9_sitters 16 = .ok (.ifCond .ne 5, 3) := by decide +kernel
theorem dX9_sitters_19 : decode cX9_sitters 19 = .ok (.iconst (-1), 1) := by decide +kernel
theorem dX9_sitters_20 : decode cX9_sitters 20 = .ok (.ireturn, 1) := by decide +kernel
theorem dX9_sitters_21 : decode cX9_sitters 21 = .ok (.aload_n 0, 1) := by decide +kernel
theorem dX9_sitters_22 : decode cX9_sitters 22 = .ok (.getfield 88, 3) := by decide +kernel
theorem dX9_sitters_25 : decode cX9_sitters 25 = .ok (.iload_n 1, 1) := by decide +kernel
theorem dX9_sitters_26 : decode cX9_sitters 26 = .ok (.iaload, 1) := by decide +kernel
theorem dX9_sitters_27 : decode cX9_sitters 27 = .ok (.ifCond .lt 17, 3) := by decide +kernel
theorem dX9_sitters_30 : decode cX9_sitters 30 = .ok (.aload_n 0, 1) := by decide +kernel
theorem dX9_sitters_31 : decode cX9_sitters 31 = .ok (.getfield 88, 3) := by decide +kernel
theorem dX9_sitters_34 : decode cX9_sitters 34 = .ok (.iload_n 1, 1) := by decide +kernel
theorem dX9_sitters_35 : decode cX9_sitters 35 = .ok (.iaload, 1) := by decide +kernel
theorem dX9_sitters_36 : decode cX9_sitters 36 = .ok (.bipush 50, 2) := by decide +kernel
theorem dX9_sitters_38 : decode cX9_sitters 38 = .ok (.if_icmp .eq 6, 3) := by decide +kernel
theorem dX9_sitters_41 : decode cX9_sitters 41 = .ok (.bipush (-12), 2) := by decide +kernel
theorem dX9_sitters_43 : decode cX9_sitters 43 = .ok (.ireturn, 1) := by decide +kernel
theorem dX9_sitters_44 : decode cX9_sitters 44 = .ok (.aload_n 0, 1) := by decide +kernel
theorem dX9_sitters_45 : decode cX9_sitters 45 = .ok (.getfield 127, 3) := by decide +kernel
theorem dX9_sitters_48 : decode cX9_sitters 48 = .ok (.ifCond .eq 6, 3) := by decide +kernel
theorem dX9_sitters_51 : decode cX9_sitters 51 = .ok (.bipush (-5), 2) := by decide +kernel
theorem dX9_sitters_53 : decode cX9_sitters 53 = .ok (.ireturn, 1) := by decide +kernel
theorem dX9_sitters_54 : decode cX9_sitters 54 = .ok (.iconst 0, 1) := by decide +kernel
theorem dX9_sitters_55 : decode cX9_sitters 55 = .ok (.istore 4, 2) := by decide +kernel
theorem dX9_sitters_57 : decode cX9_sitters 57 = .ok (.aload_n 0, 1) := by decide +kernel
theorem dX9_sitters_58 : decode cX9_sitters 58 = .ok (.getfield 88, 3) := by decide +kernel
theorem dX9_sitters_61 : decode cX9_sitters 61 = .ok (.iload_n 1, 1) := by decide +kernel
theorem dX9_sitters_62 : decode cX9_sitters 62 = .ok (.iaload, 1) := by decide +kernel
theorem dX9_sitters_63 : decode cX9_sitters 63 = .ok (.bipush 50, 2) := by decide +kernel
theorem dX9_sitters_65 : decode cX9_sitters 65 = .ok (.if_icmp .ne 11, 3) := by decide +kernel
theorem dX9_sitters_68 : decode cX9_sitters 68 = .ok (.iload_n 2, 1) := by decide +kernel
theorem dX9_sitters_69 : decode cX9_sitters 69 = .ok (.ifCond .lt 7, 3) := by decide +kernel
theorem dX9_sitters_72 : decode cX9_sitters 72 = .ok (.iconst 1, 1) := by decide +kernel
theorem dX9_sitters_73 : decode cX9_sitters 73 = .ok (.goto 4, 3) := by decide +kernel
theorem dX9_sitters_76 : decode cX9_sitters 76 = .ok (.iconst 0, 1) := by decide +kernel
theorem dX9_sitters_77 : decode cX9_sitters 77 = .ok (.istore 5, 2) := by decide +kernel
theorem dX9_sitters_79 : decode cX9_sitters 79 = .ok (.iload 5, 2) := by decide +kernel
theorem dX9_sitters_81 : decode cX9_sitters 81 = .ok (.ifCond .eq 141, 3) := by decide +kernel
theorem dX9_sitters_84 : decode cX9_sitters 84 = .ok (.iload 4, 2) := by decide +kernel
theorem dX9_sitters_86 : decode cX9_sitters 86 = .ok (.iload_n 3, 1) := by decide +kernel
theorem dX9_sitters_87 : decode cX9_sitters 87 = .ok (.if_icmp .ge 135, 3) := by decide +kernel
theorem dX9_sitters_90 : decode cX9_sitters 90 = .ok (.iload_n 2, 1) := by decide +kernel
theorem dX9_sitters_91 : decode cX9_sitters 91 = .ok (.aload_n 0, 1) := by decide +kernel
theorem dX9_sitters_92 : decode cX9_sitters 92 = .ok (.getfield 91, 3) := by decide +kernel
theorem dX9_sitters_95 : decode cX9_sitters 95 = .ok (.iload_n 1, 1) := by decide +kernel
theorem dX9_sitters_96 : decode cX9_sitters 96 = .ok (.iaload, 1) := by decide +kernel
theorem dX9_sitters_97 : decode cX9_sitters 97 = .ok (.iconst 3, 1) := by decide +kernel
theorem dX9_sitters_98 : decode cX9_sitters 98 = .ok (.isub, 1) := by decide +kernel
theorem dX9_sitters_99 : decode cX9_sitters 99 = .ok (.iconst 3, 1) := by decide +kernel
theorem dX9_sitters_100 : decode cX9_sitters 100 = .ok (.iload 4, 2) := by decide +kernel
theorem dX9_sitters_102 : decode cX9_sitters 102 = .ok (.imul, 1) := by decide +kernel
theorem dX9_sitters_103 : decode cX9_sitters 103 = .ok (.isub, 1) := by decide +kernel
theorem dX9_sitters_104 : decode cX9_sitters 104 = .ok (.if_icmp .gt 16, 3) := by decide +kernel
theorem dX9_sitters_107 : decode cX9_sitters 107 = .ok (.aload_n 0, 1) := by decide +kernel
theorem dX9_sitters_108 : decode cX9_sitters 108 = .ok (.getfield 111, 3) := by decide +kernel
theorem dX9_sitters_111 : decode cX9_sitters 111 = .ok (.bipush 8, 2) := by decide +kernel
theorem dX9_sitters_113 : decode cX9_sitters 113 = .ok (.if_icmp .ge 7, 3) := by decide +kernel
theorem dX9_sitters_116 : decode cX9_sitters 116 = .ok (.iconst 1, 1) := by decide +kernel
theorem dX9_sitters_117 : decode cX9_sitters 117 = .ok (.goto 4, 3) := by decide +kernel
theorem dX9_sitters_120 : decode cX9_sitters 120 = .ok (.iconst 0, 1) := by decide +kernel
theorem dX9_sitters_121 : decode cX9_sitters 121 = .ok (.istore 5, 2) := by decide +kernel
theorem dX9_sitters_123 : decode cX9_sitters 123 = .ok (.bipush 60, 2) := by decide +kernel
theorem dX9_sitters_125 : decode cX9_sitters 125 = .ok (.iload_n 1, 1) := by decide +kernel
theorem dX9_sitters_126 : decode cX9_sitters 126 = .ok (.imul, 1) := by decide +kernel
theorem dX9_sitters_127 : decode cX9_sitters 127 = .ok (.iload_n 2, 1) := by decide +kernel
theorem dX9_sitters_128 : decode cX9_sitters 128 = .ok (.iadd, 1) := by decide +kernel
theorem dX9_sitters_129 : decode cX9_sitters 129 = .ok (.iconst 3, 1) := by decide +kernel
theorem dX9_sitters_130 : decode cX9_sitters 130 = .ok (.iload 4, 2) := by decide +kernel
theorem dX9_sitters_132 : decode cX9_sitters 132 = .ok (.imul, 1) := by decide +kernel
theorem dX9_sitters_133 : decode cX9_sitters 133 = .ok (.iadd, 1) := by decide +kernel
theorem dX9_sitters_134 : decode cX9_sitters 134 = .ok (.istore 6, 2) := by decide +kernel
theorem dX9_sitters_136 : decode cX9_sitters 136 = .ok (.iload 5, 2) := by decide +kernel
theorem dX9_sitters_138 : decode cX9_sitters 138 = .ok (.ifCond .eq 38, 3) := by decide +kernel
theorem dX9_sitters_141 : decode cX9_sitters 141 = .ok (.aload_n 0, 1) := by decide +kernel
theorem dX9_sitters_142 : decode cX9_sitters 142 = .ok (.getfield 94, 3) := by decide +kernel
theorem dX9_sitters_145 : decode cX9_sitters 145 = .ok (.iload 6, 2) := by decide +kernel
theorem dX9_sitters_147 : decode cX9_sitters 147 = .ok (.laload, 1) := by decide +kernel
theorem dX9_sitters_148 : decode cX9_sitters 148 = .ok (.aload_n 0, 1) := by decide +kernel
theorem dX9_sitters_149 : decode cX9_sitters 149 = .ok (.getfield 94, 3) := by decide +kernel
theorem dX9_sitters_152 : decode cX9_sitters 152 = .ok (.iload 6, 2) := by decide +kernel
theorem dX9_sitters_154 : decode cX9_sitters 154 = .ok (.iconst 1, 1) := by decide +kernel
theorem dX9_sitters_155 : decode cX9_sitters 155 = .ok (.iadd, 1) := by decide +kernel
theorem dX9_sitters_156 : decode cX9_sitters 156 = .ok (.laload, 1) := by decide +kernel
theorem dX9_sitters_157 : decode cX9_sitters 157 = .ok (.aload_n 0, 1) := by decide +kernel
theorem dX9_sitters_158 : decode cX9_sitters 158 = .ok (.getfield 94, 3) := by decide +kernel
theorem dX9_sitters_161 : decode cX9_sitters 161 = .ok (.iload 6, 2) := by decide +kernel
theorem dX9_sitters_163 : decode cX9_sitters 163 = .ok (.iconst 2, 1) := by decide +kernel
theorem dX9_sitters_164 : decode cX9_sitters 164 = .ok (.iadd, 1) := by decide +kernel
theorem dX9_sitters_165 : decode cX9_sitters 165 = .ok (.laload, 1) := by decide +kernel
theorem dX9_sitters_166 : decode cX9_sitters 166 = .ok (.invokestatic 124, 3) := by decide +kernel
theorem dX9_sitters_169 : decode cX9_sitters 169 = .ok (.ifCond .eq 7, 3) := by decide +kernel
theorem dX9_sitters_172 : decode cX9_sitters 172 = .ok (.iconst 1, 1) := by decide +kernel
theorem dX9_sitters_173 : decode cX9_sitters 173 = .ok (.goto 4, 3) := by decide +kernel
theorem dX9_sitters_176 : decode cX9_sitters 176 = .ok (.iconst 0, 1) := by decide +kernel
theorem dX9_sitters_177 : decode cX9_sitters 177 = .ok (.istore 5, 2) := by decide +kernel
theorem dX9_sitters_179 : decode cX9_sitters 179 = .ok (.iload 5, 2) := by decide +kernel
theorem dX9_sitters_181 : decode cX9_sitters 181 = .ok (.ifCond .eq 38, 3) := by decide +kernel
theorem dX9_sitters_184 : decode cX9_sitters 184 = .ok (.aload_n 0, 1) := by decide +kernel
theorem dX9_sitters_185 : decode cX9_sitters 185 = .ok (.aload_n 0, 1) := by decide +kernel
theorem dX9_sitters_186 : decode cX9_sitters 186 = .ok (.getfield 94, 3) := by decide +kernel
theorem dX9_sitters_189 : decode cX9_sitters 189 = .ok (.iload 6, 2) := by decide +kernel
theorem dX9_sitters_191 : decode cX9_sitters 191 = .ok (.laload, 1) := by decide +kernel
theorem dX9_sitters_192 : decode cX9_sitters 192 = .ok (.l2i, 1) := by decide +kernel
theorem dX9_sitters_193 : decode cX9_sitters 193 = .ok (.aload_n 0, 1) := by decide +kernel
theorem dX9_sitters_194 : decode cX9_sitters 194 = .ok (.getfield 94, 3) := by decide +kernel
theorem dX9_sitters_197 : decode cX9_sitters 197 = .ok (.iload 6, 2) := by decide +kernel
theorem dX9_sitters_199 : decode cX9_sitters 199 = .ok (.iconst 1, 1) := by decide +kernel
theorem dX9_sitters_200 : decode cX9_sitters 200 = .ok (.iadd, 1) := by decide +kernel
theorem dX9_sitters_201 : decode cX9_sitters 201 = .ok (.laload, 1) := by decide +kernel
theorem dX9_sitters_202 : decode cX9_sitters 202 = .ok (.l2i, 1) := by decide +kernel
theorem dX9_sitters_203 : decode cX9_sitters 203 = .ok (.aload_n 0, 1) := by decide +kernel
theorem dX9_sitters_204 : decode cX9_sitters 204 = .ok (.getfield 94, 3) := by decide +kernel
theorem dX9_sitters_207 : decode cX9_sitters 207 = .ok (.iload 6, 2) := by decide +kernel
theorem dX9_sitters_209 : decode cX9_sitters 209 = .ok (.iconst 2, 1) := by decide +kernel
theorem dX9_sitters_210 : decode cX9_sitters 210 = .ok (.iadd, 1) := by decide +kernel
theorem dX9_sitters_211 : decode cX9_sitters 211 = .ok (.laload, 1) := by decide +kernel
theorem dX9_sitters_212 : decode cX9_sitters 212 = .ok (.l2i, 1) := by decide +kernel
theorem dX9_sitters_213 : decode cX9_sitters 213 = .ok (.invokevirtual 130, 3) := by decide +kernel
theorem dX9_sitters_216 : decode cX9_sitters 216 = .ok (.iinc 4 1, 3) := by decide +kernel
theorem dX9_sitters_219 : decode cX9_sitters 219 = .ok (.goto (-140), 3) := by decide +kernel
theorem dX9_sitters_222 : decode cX9_sitters 222 = .ok (.iload 4, 2) := by decide +kernel
theorem dX9_sitters_224 : decode cX9_sitters 224 = .ok (.ireturn, 1) := by decide +kernel
theorem dX9_fits_0 : decode cX9_fits 0 = .ok (.aload_n 1, 1) := by decide +kernel
theorem dX9_fits_1 : decode cX9_fits 1 = .ok (.iconst 2, 1) := by decide +kernel
theorem dX9_fits_2 : decode cX9_fits 2 = .ok (.iload_n 2, 1) := by decide +kernel
theorem dX9_fits_3 : decode cX9_fits 3 = .ok (.imul, 1) := by decide +kernel
theorem dX9_fits_4 : decode cX9_fits 4 = .ok (.aload_n 1, 1) := by decide +kernel
theorem dX9_fits_5 : decode cX9_fits 5 = .ok (.iconst 2, 1) := by decide +kernel
theorem dX9_fits_6 : decode cX9_fits 6 = .ok (.iload_n 2, 1) := by decide +kernel
theorem dX9_fits_7 : decode cX9_fits 7 = .ok (.imul, 1) := by decide +kernel
theorem dX9_fits_8 : decode cX9_fits 8 = .ok (.iaload, 1) := by decide +kernel
theorem dX9_fits_9 : decode cX9_fits 9 = .ok (.iload_n 3, 1) := by decide +kernel
theorem dX9_fits_10 : decode cX9_fits 10 = .ok (.if_icmp .le 7, 3) := by decide +kernel
theorem dX9_fits_13 : decode cX9_fits 13 = .ok (.iload_n 3, 1) := by decide +kernel
theorem dX9_fits_14 : decode cX9_fits 14 = .ok (.goto 8, 3) := by decide +kernel
theorem dX9_fits_17 : decode cX9_fits 17 = .ok (.aload_n 1, 1) := by decide +kernel
theorem dX9_fits_18 : decode cX9_fits 18 = .ok (.iconst 2, 1) := by decide +kernel
theorem dX9_fits_19 : decode cX9_fits 19 = .ok (.iload_n 2, 1) := by decide +kernel
theorem dX9_fits_20 : decode cX9_fits 20 = .ok (.imul, 1) := by decide +kernel
theorem dX9_fits_21 : decode cX9_fits 21 = .ok (.iaload, 1) := by decide +kernel
theorem dX9_fits_22 : decode cX9_fits 22 = .ok (.iastore, 1) := by decide +kernel
theorem dX9_fits_23 : decode cX9_fits 23 = .ok (.iload_n 3, 1) := by decide +kernel
theorem dX9_fits_24 : decode cX9_fits 24 = .ok (.aload_n 1, 1) := by decide +kernel
theorem dX9_fits_25 : decode cX9_fits 25 = .ok (.iconst 2, 1) := by decide +kernel
theorem dX9_fits_26 : decode cX9_fits 26 = .ok (.iload_n 2, 1) := by decide +kernel
theorem dX9_fits_27 : decode cX9_fits 27 = .ok (.imul, 1) := by decide +kernel
theorem dX9_fits_28 : decode cX9_fits 28 = .ok (.iaload, 1) := by decide +kernel
theorem dX9_fits_29 : decode cX9_fits 29 = .ok (.isub, 1) := by decide +kernel
theorem dX9_fits_30 : decode cX9_fits 30 = .ok (.istore 4, 2) := by decide +kernel
theorem dX9_fits_32 : decode cX9_fits 32 = .ok (.aload_n 1, 1) := by decide +kernel
theorem dX9_fits_33 : decode cX9_fits 33 = .ok (.iconst 2, 1) := by decide +kernel
theorem dX9_fits_34 : decode cX9_fits 34 = .ok (.iload_n 2, 1) := by decide +kernel
theorem dX9_fits_35 : decode cX9_fits 35 = .ok (.imul, 1) := by decide +kernel
theorem dX9_fits_36 : decode cX9_fits 36 = .ok (.iconst 1, 1) := by decide +kernel
theorem dX9_fits_37 : decode cX9_fits 37 = .ok (.iadd, 1) := by decide +kernel
theorem dX9_fits_38 : decode cX9_fits 38 = .ok (.aload_n 1, 1) := by decide +kernel
theorem dX9_fits_39 : decode cX9_fits 39 = .ok (.iconst 2, 1) := by decide +kernel
theorem dX9_fits_40 : decode cX9_fits 40 = .ok (.iload_n 2, 1) := by decide +kernel
theorem dX9_fits_41 : decode cX9_fits 41 = .ok (.imul, 1) := by decide +kernel
theorem dX9_fits_42 : decode cX9_fits 42 = .ok (.iconst 1, 1) := by decide +kernel
theorem dX9_fits_43 : decode cX9_fits 43 = .ok (.iadd, 1) := by decide +kernel
theorem dX9_fits_44 : decode cX9_fits 44 = .ok (.iaload, 1) := by decide +kernel
theorem dX9_fits_45 : decode cX9_fits 45 = .ok (.iload 4, 2) := by decide +kernel
theorem dX9_fits_47 : decode cX9_fits 47 = .ok (.if_icmp .le 8, 3) := by decide +kernel
theorem dX9_fits_50 : decode cX9_fits 50 = .ok (.iload 4, 2) := by decide +kernel
theorem dX9_fits_52 : decode cX9_fits 52 = .ok (.goto 10, 3) := by decide +kernel
theorem dX9_fits_55 : decode cX9_fits 55 = .ok (.aload_n 1, 1) := by decide +kernel
theorem dX9_fits_56 : decode cX9_fits 56 = .ok (.iconst 2, 1) := by decide +kernel
theorem dX9_fits_57 : decode cX9_fits 57 = .ok (.iload_n 2, 1) := by decide +kernel
theorem dX9_fits_58 : decode cX9_fits 58 = .ok (.imul, 1) := by decide +kernel
theorem dX9_fits_59 : decode cX9_fits 59 = .ok (.iconst 1, 1) := by decide +kernel
theorem dX9_fits_60 : decode cX9_fits 60 = .ok (.iadd, 1) := by decide +kernel
theorem dX9_fits_61 : decode cX9_fits 61 = .ok (.iaload, 1) := by decide +kernel
theorem dX9_fits_62 : decode cX9_fits 62 = .ok (.iastore, 1) := by decide +kernel
theorem dX9_fits_63 : decode cX9_fits 63 = .ok (.return_, 1) := by decide +kernel
theorem dX9_wide_0 : decode cX9_wide 0 = .ok (.iload_n 1, 1) := by decide +kernel
theorem dX9_wide_1 : decode cX9_wide 1 = .ok (.i2l, 1) := by decide +kernel
theorem dX9_wide_2 : decode cX9_wide 2 = .ok (.lconst 0, 1) := by decide +kernel
theorem dX9_wide_3 : decode cX9_wide 3 = .ok (.ldc2_w 140, 3) := by decide +kernel
theorem dX9_wide_6 : decode cX9_wide 6 = .ok (.invokestatic 114, 3) := by decide +kernel
theorem dX9_wide_9 : decode cX9_wide 9 = .ok (.ifCond .eq 15, 3) := by decide +kernel
theorem dX9_wide_12 : decode cX9_wide 12 = .ok (.iload_n 2, 1) := by decide +kernel
theorem dX9_wide_13 : decode cX9_wide 13 = .ok (.i2l, 1) := by decide +kernel
theorem dX9_wide_14 : decode cX9_wide 14 = .ok (.lconst 0, 1) := by decide +kernel
theorem dX9_wide_15 : decode cX9_wide 15 = .ok (.ldc2_w 122, 3) := by decide +kernel
theorem dX9_wide_18 : decode cX9_wide 18 = .ok (.invokestatic 114, 3) := by decide +kernel
theorem dX9_wide_21 : decode cX9_wide 21 = .ok (.ifCond .ne 5, 3) := by decide +kernel
theorem dX9_wide_24 : decode cX9_wide 24 = .ok (.iconst (-1), 1) := by decide +kernel
theorem dX9_wide_25 : decode cX9_wide 25 = .ok (.ireturn, 1) := by decide +kernel
theorem dX9_wide_26 : decode cX9_wide 26 = .ok (.aload_n 0, 1) := by decide +kernel
theorem dX9_wide_27 : decode cX9_wide 27 = .ok (.getfield 22, 3) := by decide +kernel
theorem dX9_wide_30 : decode cX9_wide 30 = .ok (.iload_n 1, 1) := by decide +kernel
theorem dX9_wide_31 : decode cX9_wide 31 = .ok (.iaload, 1) := by decide +kernel
theorem dX9_wide_32 : decode cX9_wide 32 = .ok (.istore_n 3, 1) := by decide +kernel
theorem dX9_wide_33 : decode cX9_wide 33 = .ok (.aload_n 0, 1) := by decide +kernel
theorem dX9_wide_34 : decode cX9_wide 34 = .ok (.getfield 22, 3) := by decide +kernel
theorem dX9_wide_37 : decode cX9_wide 37 = .ok (.iload_n 1, 1) := by decide +kernel
theorem dX9_wide_38 : decode cX9_wide 38 = .ok (.iload_n 2, 1) := by decide +kernel
theorem dX9_wide_39 : decode cX9_wide 39 = .ok (.iastore, 1) := by decide +kernel
theorem dX9_wide_40 : decode cX9_wide 40 = .ok (.aload_n 0, 1) := by decide +kernel
theorem dX9_wide_41 : decode cX9_wide 41 = .ok (.aload_n 0, 1) := by decide +kernel
theorem dX9_wide_42 : decode cX9_wide 42 = .ok (.getfield 28, 3) := by decide +kernel
theorem dX9_wide_45 : decode cX9_wide 45 = .ok (.iload_n 1, 1) := by decide +kernel
theorem dX9_wide_46 : decode cX9_wide 46 = .ok (.iload_n 2, 1) := by decide +kernel
theorem dX9_wide_47 : decode cX9_wide 47 = .ok (.invokevirtual 142, 3) := by decide +kernel
theorem dX9_wide_50 : decode cX9_wide 50 = .ok (.iload_n 3, 1) := by decide +kernel
theorem dX9_wide_51 : decode cX9_wide 51 = .ok (.ireturn, 1) := by decide +kernel
theorem dX9_hours_0 : decode cX9_hours 0 = .ok (.aload_n 0, 1) := by decide +kernel
theorem dX9_hours_1 : decode cX9_hours 1 = .ok (.iload_n 1, 1) := by decide +kernel
theorem dX9_hours_2 : decode cX9_hours 2 = .ok (.invokevirtual 146, 3) := by decide +kernel
theorem dX9_hours_5 : decode cX9_hours 5 = .ok (.ifCond .eq 39, 3) := by decide +kernel
theorem dX9_hours_8 : decode cX9_hours 8 = .ok (.iload_n 2, 1) := by decide +kernel
theorem dX9_hours_9 : decode cX9_hours 9 = .ok (.ifCond .lt 35, 3) := by decide +kernel
theorem dX9_hours_12 : decode cX9_hours 12 = .ok (.iload_n 2, 1) := by decide +kernel
theorem dX9_hours_13 : decode cX9_hours 13 = .ok (.bipush 100, 2) := by decide +kernel
theorem dX9_hours_15 : decode cX9_hours 15 = .ok (.idiv, 1) := by decide +kernel
theorem dX9_hours_16 : decode cX9_hours 16 = .ok (.iload_n 2, 1) := by decide +kernel
theorem dX9_hours_17 : decode cX9_hours 17 = .ok (.bipush 100, 2) := by decide +kernel
theorem dX9_hours_19 : decode cX9_hours 19 = .ok (.irem, 1) := by decide +kernel
theorem dX9_hours_20 : decode cX9_hours 20 = .ok (.if_icmp .gt 24, 3) := by decide +kernel
theorem dX9_hours_23 : decode cX9_hours 23 = .ok (.iload_n 2, 1) := by decide +kernel
theorem dX9_hours_24 : decode cX9_hours 24 = .ok (.bipush 100, 2) := by decide +kernel
theorem dX9_hours_26 : decode cX9_hours 26 = .ok (.irem, 1) := by decide +kernel
theorem dX9_hours_27 : decode cX9_hours 27 = .ok (.bipush 24, 2) := by decide +kernel
theorem dX9_hours_29 : decode cX9_hours 29 = .ok (.if_icmp .ge 15, 3) := by decide +kernel
theorem dX9_hours_32 : decode cX9_hours 32 = .ok (.iload_n 3, 1) := by decide +kernel
theorem dX9_hours_33 : decode cX9_hours 33 = .ok (.i2l, 1) := by decide +kernel
theorem dX9_hours_34 : decode cX9_hours 34 = .ok (.lconst 0, 1) := by decide +kernel
theorem dX9_hours_35 : decode cX9_hours 35 = .ok (.ldc2_w 149, 3) := by decide +kernel
theorem dX9_hours_38 : decode cX9_hours 38 = .ok (.invokestatic 114, 3) := by decide +kernel
theorem dX9_hours_41 : decode cX9_hours 41 = .ok (.ifCond .ne 5, 3) := by decide +kernel
theorem dX9_hours_44 : decode cX9_hours 44 = .ok (.iconst (-1), 1) := by decide +kernel
theorem dX9_hours_45 : decode cX9_hours 45 = .ok (.ireturn, 1) := by decide +kernel
theorem dX9_hours_46 : decode cX9_hours 46 = .ok (.iload_n 2, 1) := by decide +kernel
theorem dX9_hours_47 : decode cX9_hours 47 = .ok (.bipush 100, 2) := by decide +kernel
theorem dX9_hours_49 : decode cX9_hours 49 = .ok (.idiv, 1) := by decide +kernel
theorem dX9_hours_50 : decode cX9_hours 50 = .ok (.aload_n 0, 1) := by decide +kernel
theorem dX9_hours_51 : decode cX9_hours 51 = .ok (.getfield 127, 3) := by decide +kernel
theorem dX9_hours_54 : decode cX9_hours 54 = .ok (.if_icmp .ge 6, 3) := by decide +kernel
theorem dX9_hours_57 : decode cX9_hours 57 = .ok (.bipush (-5), 2) := by decide +kernel
theorem dX9_hours_59 : decode cX9_hours 59 = .ok (.ireturn, 1) := by decide +kernel
theorem dX9_hours_60 : decode cX9_hours 60 = .ok (.iload_n 2, 1) := by decide +kernel
theorem dX9_hours_61 : decode cX9_hours 61 = .ok (.bipush 100, 2) := by decide +kernel
theorem dX9_hours_63 : decode cX9_hours 63 = .ok (.idiv, 1) := by decide +kernel
theorem dX9_hours_64 : decode cX9_hours 64 = .ok (.istore 4, 2) := by decide +kernel
theorem dX9_hours_66 : decode cX9_hours 66 = .ok (.iload 4, 2) := by decide +kernel
theorem dX9_hours_68 : decode cX9_hours 68 = .ok (.iload_n 2, 1) := by decide +kernel
theorem dX9_hours_69 : decode cX9_hours 69 = .ok (.bipush 100, 2) := by decide +kernel
theorem dX9_hours_71 : decode cX9_hours 71 = .ok (.irem, 1) := by decide +kernel
theorem dX9_hours_72 : decode cX9_hours 72 = .ok (.if_icmp .gt 22, 3) := by decide +kernel
theorem dX9_hours_75 : decode cX9_hours 75 = .ok (.aload_n 0, 1) := by decide +kernel
theorem dX9_hours_76 : decode cX9_hours 76 = .ok (.getfield 25, 3) := by decide +kernel
theorem dX9_hours_79 : decode cX9_hours 79 = .ok (.bipush 24, 2) := by decide +kernel
theorem dX9_hours_81 : decode cX9_hours 81 = .ok (.iload_n 1, 1) := by decide +kernel
theorem dX9_hours_82 : decode cX9_hours 82 = .ok (.imul, 1) := by decide +kernel
theorem dX9_hours_83 : decode cX9_hours 83 = .ok (.iload 4, 2) := by decide +kernel
theorem dX9_hours_85 : decode cX9_hours 85 = .ok (.iadd, 1) := by decide +kernel
theorem dX9_hours_86 : decode cX9_hours 86 = .ok (.iload_n 3, 1) := by decide +kernel
theorem dX9_hours_87 : decode cX9_hours 87 = .ok (.iastore, 1) := by decide +kernel
theorem dX9_hours_88 : decode cX9_hours 88 = .ok (.iinc 4 1, 3) := by decide +kernel
theorem dX9_hours_91 : decode cX9_hours 91 = .ok (.goto (-25), 3) := by decide +kernel
theorem dX9_hours_94 : decode cX9_hours 94 = .ok (.iload_n 2, 1) := by decide +kernel
theorem dX9_hours_95 : decode cX9_hours 95 = .ok (.bipush 100, 2) := by decide +kernel
theorem dX9_hours_97 : decode cX9_hours 97 = .ok (.irem, 1) := by decide +kernel
theorem dX9_hours_98 : decode cX9_hours 98 = .ok (.iload_n 2, 1) := by decide +kernel
theorem dX9_hours_99 : decode cX9_hours 99 = .ok (.bipush 100, 2) := by decide +kernel
theorem dX9_hours_101 : decode cX9_hours 101 = .ok (.idiv, 1) := by decide +kernel
theorem dX9_hours_102 : decode cX9_hours 102 = .ok (.isub, 1) := by decide +kernel
theorem dX9_hours_103 : decode cX9_hours 103 = .ok (.iconst 1, 1) := by decide +kernel
theorem dX9_hours_104 : decode cX9_hours 104 = .ok (.iadd, 1) := by decide +kernel
theorem dX9_hours_105 : decode cX9_hours 105 = .ok (.ireturn, 1) := by decide +kernel
theorem dX9_mend_0 : decode cX9_mend 0 = .ok (.aload_n 0, 1) := by decide +kernel
theorem dX9_mend_1 : decode cX9_mend 1 = .ok (.iload_n 1, 1) := by decide +kernel
theorem dX9_mend_2 : decode cX9_mend 2 = .ok (.invokevirtual 146, 3) := by decide +kernel
theorem dX9_mend_5 : decode cX9_mend 5 = .ok (.ifCond .eq 38, 3) := by decide +kernel
theorem dX9_mend_8 : decode cX9_mend 8 = .ok (.iload_n 2, 1) := by decide +kernel
theorem dX9_mend_9 : decode cX9_mend 9 = .ok (.i2l, 1) := by decide +kernel
theorem dX9_mend_10 : decode cX9_mend 10 = .ok (.lconst 0, 1) := by decide +kernel
theorem dX9_mend_11 : decode cX9_mend 11 = .ok (.ldc2_w 151, 3) := by decide +kernel
theorem dX9_mend_14 : decode cX9_mend 14 = .ok (.invokestatic 114, 3) := by decide +kernel
theorem dX9_mend_17 : decode cX9_mend 17 = .ok (.ifCond .eq 26, 3) := by decide +kernel
theorem dX9_mend_20 : decode cX9_mend 20 = .ok (.iload_n 3, 1) := by decide +kernel
theorem dX9_mend_21 : decode cX9_mend 21 = .ok (.i2l, 1) := by decide +kernel
theorem dX9_mend_22 : decode cX9_mend 22 = .ok (.lconst 0, 1) := by decide +kernel
theorem dX9_mend_23 : decode cX9_mend 23 = .ok (.iload_n 2, 1) := by decide +kernel
theorem dX9_mend_24 : decode cX9_mend 24 = .ok (.iconst 3, 1) := by decide +kernel
theorem dX9_mend_25 : decode cX9_mend 25 = .ok (.if_icmp .ge 9, 3) := by decide +kernel
theorem dX9_mend_28 : decode cX9_mend 28 = .ok (.ldc2_w 122, 3) := by decide +kernel
theorem dX9_mend_31 : decode cX9_mend 31 = .ok (.goto 6, 3) := by decide +kernel
theorem dX9_mend_34 : decode cX9_mend 34 = .ok (.ldc2_w 153, 3) := by decide +kernel
theorem dX9_mend_37 : decode cX9_mend 37 = .ok (.invokestatic 114, 3) := by decide +kernel
theorem dX9_mend_40 : decode cX9_mend 40 = .ok (.ifCond .ne 5, 3) := by decide +kernel
theorem dX9_mend_43 : decode cX9_mend 43 = .ok (.iconst (-1), 1) := by decide +kernel
theorem dX9_mend_44 : decode cX9_mend 44 = .ok (.ireturn, 1) := by decide +kernel
theorem dX9_mend_45 : decode cX9_mend 45 = .ok (.aload_n 0, 1) := by decide +kernel
theorem dX9_mend_46 : decode cX9_mend 46 = .ok (.bipush 8, 2) := by decide +kernel
theorem dX9_mend_48 : decode cX9_mend 48 = .ok (.iload_n 2, 1) := by decide +kernel
theorem dX9_mend_49 : decode cX9_mend 49 = .ok (.imul, 1) := by decide +kernel
theorem dX9_mend_50 : decode cX9_mend 50 = .ok (.iload_n 1, 1) := by decide +kernel
theorem dX9_mend_51 : decode cX9_mend 51 = .ok (.iadd, 1) := by decide +kernel
theorem dX9_mend_52 : decode cX9_mend 52 = .ok (.iload_n 3, 1) := by decide +kernel
theorem dX9_mend_53 : decode cX9_mend 53 = .ok (.invokevirtual 155, 3) := by decide +kernel
theorem dX9_mend_56 : decode cX9_mend 56 = .ok (.ireturn, 1) := by decide +kernel
theorem dX9_heldBy_0 : decode cX9_heldBy 0 = .ok (.iconst 0, 1) := by decide +kernel
theorem dX9_heldBy_1 : decode cX9_heldBy 1 = .ok (.istore_n 3, 1) := by decide +kernel
theorem dX9_heldBy_2 : decode cX9_heldBy 2 = .ok (.iconst 0, 1) := by decide +kernel
theorem dX9_heldBy_3 : decode cX9_heldBy 3 = .ok (.istore 4, 2) := by decide +kernel
theorem dX9_heldBy_5 : decode cX9_heldBy 5 = .ok (.iload 4, 2) := by decide +kernel
theorem dX9_heldBy_7 : decode cX9_heldBy 7 = .ok (.aload_n 0, 1) := by decide +kernel
theorem dX9_heldBy_8 : decode cX9_heldBy 8 = .ok (.invokevirtual 118, 3) := by decide +kernel
theorem dX9_heldBy_11 : decode cX9_heldBy 11 = .ok (.if_icmp .ge 47, 3) := by decide +kernel
theorem dX9_heldBy_14 : decode cX9_heldBy 14 = .ok (.iload_n 3, 1) := by decide +kernel
theorem dX9_heldBy_15 : decode cX9_heldBy 15 = .ok (.iload 4, 2) := by decide +kernel
theorem dX9_heldBy_17 : decode cX9_heldBy 17 = .ok (.iload_n 2, 1) := by decide +kernel
theorem dX9_heldBy_18 : decode cX9_heldBy 18 = .ok (.if_icmp .ne 12, 3) := by decide +kernel
theorem dX9_heldBy_21 : decode cX9_heldBy 21 = .ok (.aload_n 1, 1) := by decide +kernel
theorem dX9_heldBy_22 : decode cX9_heldBy 22 = .ok (.iconst 2, 1) := by decide +kernel
theorem dX9_heldBy_23 : decode cX9_heldBy 23 = .ok (.iload 4, 2) := by decide +kernel
theorem dX9_heldBy_25 : decode cX9_heldBy 25 = .ok (.imul, 1) := by decide +kernel
theorem dX9_heldBy_26 : decode cX9_heldBy 26 = .ok (.iaload, 1) := by decide +kernel
theorem dX9_heldBy_27 : decode cX9_heldBy 27 = .ok (.goto 23, 3) := by decide +kernel
theorem dX9_heldBy_30 : decode cX9_heldBy 30 = .ok (.iload 4, 2) := by decide +kernel
theorem dX9_heldBy_32 : decode cX9_heldBy 32 = .ok (.iload_n 2, 1) := by decide +kernel
theorem dX9_heldBy_33 : decode cX9_heldBy 33 = .ok (.iconst 1, 1) := by decide +kernel
theorem dX9_heldBy_34 : decode cX9_heldBy 34 = .ok (.isub, 1) := by decide +kernel
theorem dX9_heldBy_35 : decode cX9_heldBy 35 = .ok (.if_icmp .ne 14, 3) := by decide +kernel
theorem dX9_heldBy_38 : decode cX9_heldBy 38 = .ok (.aload_n 1, 1) := by decide +kernel
theorem dX9_heldBy_39 : decode cX9_heldBy 39 = .ok (.iconst 2, 1) := by decide +kernel
theorem dX9_heldBy_40 : decode cX9_heldBy 40 = .ok (.iload 4, 2) := by decide +kernel
theorem dX9_heldBy_42 : decode cX9_heldBy 42 = .ok (.imul, 1) := by decide +kernel
theorem dX9_heldBy_43 : decode cX9_heldBy 43 = .ok (.iconst 1, 1) := by decide +kernel
theorem dX9_heldBy_44 : decode cX9_heldBy 44 = .ok (.iadd, 1) := by decide +kernel
theorem dX9_heldBy_45 : decode cX9_heldBy 45 = .ok (.iaload, 1) := by decide +kernel
theorem dX9_heldBy_46 : decode cX9_heldBy 46 = .ok (.goto 4, 3) := by decide +kernel
theorem dX9_heldBy_49 : decode cX9_heldBy 49 = .ok (.iconst 0, 1) := by decide +kernel
theorem dX9_heldBy_50 : decode cX9_heldBy 50 = .ok (.iadd, 1) := by decide +kernel
theorem dX9_heldBy_51 : decode cX9_heldBy 51 = .ok (.istore_n 3, 1) := by decide +kernel
theorem dX9_heldBy_52 : decode cX9_heldBy 52 = .ok (.iinc 4 1, 3) := by decide +kernel
theorem dX9_heldBy_55 : decode cX9_heldBy 55 = .ok (.goto (-50), 3) := by decide +kernel
theorem dX9_heldBy_58 : decode cX9_heldBy 58 = .ok (.iload_n 3, 1) := by decide +kernel
theorem dX9_heldBy_59 : decode cX9_heldBy 59 = .ok (.ireturn, 1) := by decide +kernel
theorem dX9_of_0 : decode cX9_of 0 = .ok (.aload_n 0, 1) := by decide +kernel
theorem dX9_of_1 : decode cX9_of 1 = .ok (.iload_n 1, 1) := by decide +kernel
theorem dX9_of_2 : decode cX9_of 2 = .ok (.invokevirtual 146, 3) := by decide +kernel
theorem dX9_of_5 : decode cX9_of 5 = .ok (.ifCond .ne 6, 3) := by decide +kernel
theorem dX9_of_8 : decode cX9_of 8 = .ok (.ldc 159, 2) := by decide +kernel
theorem dX9_of_10 : decode cX9_of 10 = .ok (.ireturn, 1) := by decide +kernel
theorem dX9_of_11 : decode cX9_of 11 = .ok (.iload_n 2, 1) := by decide +kernel
theorem dX9_of_12 : decode cX9_of 12 = .ok (.i2l, 1) := by decide +kernel
theorem dX9_of_13 : decode cX9_of 13 = .ok (.lconst 0, 1) := by decide +kernel
theorem dX9_of_14 : decode cX9_of 14 = .ok (.ldc2_w 151, 3) := by decide +kernel
theorem dX9_of_17 : decode cX9_of 17 = .ok (.invokestatic 114, 3) := by decide +kernel
theorem dX9_of_20 : decode cX9_of 20 = .ok (.ifCond .eq 15, 3) := by decide +kernel
theorem dX9_of_23 : decode cX9_of 23 = .ok (.aload_n 0, 1) := by decide +kernel
theorem dX9_of_24 : decode cX9_of 24 = .ok (.getfield 9, 3) := by decide +kernel
theorem dX9_of_27 : decode cX9_of 27 = .ok (.bipush 8, 2) := by decide +kernel
theorem dX9_of_29 : decode cX9_of 29 = .ok (.iload_n 2, 1) := by decide +kernel
theorem dX9_of_30 : decode cX9_of 30 = .ok (.imul, 1) := by decide +kernel
theorem dX9_of_31 : decode cX9_of 31 = .ok (.iload_n 1, 1) := by decide +kernel
theorem dX9_of_32 : decode cX9_of 32 = .ok (.iadd, 1) := by decide +kernel
theorem dX9_of_33 : decode cX9_of 33 = .ok (.iaload, 1) := by decide +kernel
theorem dX9_of_34 : decode cX9_of 34 = .ok (.ireturn, 1) := by decide +kernel
theorem dX9_of_35 : decode cX9_of 35 = .ok (.iload_n 2, 1) := by decide +kernel
theorem dX9_of_36 : decode cX9_of 36 = .ok (.i2l, 1) := by decide +kernel
theorem dX9_of_37 : decode cX9_of 37 = .ok (.ldc2_w 160, 3) := by decide +kernel
theorem dX9_of_40 : decode cX9_of 40 = .ok (.ldc2_w 162, 3) := by decide +kernel
theorem dX9_of_43 : decode cX9_of 43 = .ok (.invokestatic 114, 3) := by decide +kernel
theorem dX9_of_46 : decode cX9_of 46 = .ok (.ifCond .eq 18, 3) := by decide +kernel
theorem dX9_of_49 : decode cX9_of 49 = .ok (.aload_n 0, 1) := by decide +kernel
theorem dX9_of_50 : decode cX9_of 50 = .ok (.getfield 25, 3) := by decide +kernel
theorem dX9_of_53 : decode cX9_of 53 = .ok (.bipush 24, 2) := by decide +kernel
theorem dX9_of_55 : decode cX9_of 55 = .ok (.iload_n 1, 1) := by decide +kernel
theorem dX9_of_56 : decode cX9_of 56 = .ok (.imul, 1) := by decide +kernel
theorem dX9_of_57 : decode cX9_of 57 = .ok (.iload_n 2, 1) := by decide +kernel
theorem dX9_of_58 : decode cX9_of 58 = .ok (.iadd, 1) := by decide +kernel
theorem dX9_of_59 : decode cX9_of 59 = .ok (.bipush 100, 2) := by decide +kernel
theorem dX9_of_61 : decode cX9_of 61 = .ok (.isub, 1) := by decide +kernel
theorem dX9_of_62 : decode cX9_of 62 = .ok (.iaload, 1) := by decide +kernel
theorem dX9_of_63 : decode cX9_of 63 = .ok (.ireturn, 1) := by decide +kernel
theorem dX9_of_64 : decode cX9_of 64 = .ok (.iload_n 2, 1) := by decide +kernel
theorem dX9_of_65 : decode cX9_of 65 = .ok (.iconst 5, 1) := by decide +kernel
theorem dX9_of_66 : decode cX9_of 66 = .ok (.if_icmp .ne 15, 3) := by decide +kernel
theorem dX9_of_69 : decode cX9_of 69 = .ok (.aload_n 0, 1) := by decide +kernel
theorem dX9_of_70 : decode cX9_of 70 = .ok (.aload_n 0, 1) := by decide +kernel
theorem dX9_of_71 : decode cX9_of 71 = .ok (.getfield 28, 3) := by decide +kernel
theorem dX9_of_74 : decode cX9_of 74 = .ok (.iload_n 1, 1) := by decide +kernel
theorem dX9_of_75 : decode cX9_of 75 = .ok (.invokevirtual 164, 3) := by decide +kernel
theorem dX9_of_78 : decode cX9_of 78 = .ok (.goto 35, 3) := by decide +kernel
theorem dX9_of_81 : decode cX9_of 81 = .ok (.iload_n 2, 1) := by decide +kernel
theorem dX9_of_82 : decode cX9_of 82 = .ok (.bipush 6, 2) := by decide +kernel
theorem dX9_of_84 : decode cX9_of 84 = .ok (.if_icmp .ne 12, 3) := by decide +kernel
theorem dX9_of_87 : decode cX9_of 87 = .ok (.aload_n 0, 1) := by decide +kernel
theorem dX9_of_88 : decode cX9_of 88 = .ok (.getfield 31, 3) := by decide +kernel
theorem dX9_of_91 : decode cX9_of 91 = .ok (.iload_n 1, 1) := by decide +kernel
theorem dX9_of_92 : decode cX9_of 92 = .ok (.iaload, 1) := by decide +kernel
theorem dX9_of_93 : decode cX9_of 93 = .ok (.goto 20, 3) := by decide +kernel
theorem dX9_of_96 : decode cX9_of 96 = .ok (.iload_n 2, 1) := by decide +kernel
theorem dX9_of_97 : decode cX9_of 97 = .ok (.bipush 7, 2) := by decide +kernel
theorem dX9_of_99 : decode cX9_of 99 = .ok (.if_icmp .ne 12, 3) := by decide +kernel
theorem dX9_of_102 : decode cX9_of 102 = .ok (.aload_n 0, 1) := by decide +kernel
theorem dX9_of_103 : decode cX9_of 103 = .ok (.getfield 34, 3) := by decide +kernel
theorem dX9_of_106 : decode cX9_of 106 = .ok (.iload_n 1, 1) := by decide +kernel
theorem dX9_of_107 : decode cX9_of 107 = .ok (.iaload, 1) := by decide +kernel
theorem dX9_of_108 : decode cX9_of 108 = .ok (.goto 5, 3) := by decide +kernel
theorem dX9_of_111 : decode cX9_of 111 = .ok (.ldc 159, 2) := by decide +kernel
theorem dX9_of_113 : decode cX9_of 113 = .ok (.ireturn, 1) := by decide +kernel
theorem dX9_rest_0 : decode cX9_rest 0 = .ok (.iload_n 2, 1) := by decide +kernel
theorem dX9_rest_1 : decode cX9_rest 1 = .ok (.iconst 4, 1) := by decide +kernel
theorem dX9_rest_2 : decode cX9_rest 2 = .ok (.if_icmp .ne 26, 3) := by decide +kernel
theorem dX9_rest_5 : decode cX9_rest 5 = .ok (.iload_n 1, 1) := by decide +kernel
theorem dX9_rest_6 : decode cX9_rest 6 = .ok (.i2l, 1) := by decide +kernel
theorem dX9_rest_7 : decode cX9_rest 7 = .ok (.lconst 0, 1) := by decide +kernel
theorem dX9_rest_8 : decode cX9_rest 8 = .ok (.ldc2_w 140, 3) := by decide +kernel
theorem dX9_rest_11 : decode cX9_rest 11 = .ok (.invokestatic 114, 3) := by decide +kernel
theorem dX9_rest_14 : decode cX9_rest 14 = .ok (.ifCond .eq 12, 3) := by decide +kernel
theorem dX9_rest_17 : decode cX9_rest 17 = .ok (.aload_n 0, 1) := by decide +kernel
theorem dX9_rest_18 : decode cX9_rest 18 = .ok (.getfield 22, 3) := by decide +kernel
theorem dX9_rest_21 : decode cX9_rest 21 = .ok (.iload_n 1, 1) := by decide +kernel
theorem dX9_rest_22 : decode cX9_rest 22 = .ok (.iaload, 1) := by decide +kernel
theorem dX9_rest_23 : decode cX9_rest 23 = .ok (.goto 4, 3) := by decide +kernel
theorem dX9_rest_26 : decode cX9_rest 26 = .ok (.iconst (-1), 1) := by decide +kernel
theorem dX9_rest_27 : decode cX9_rest 27 = .ok (.ireturn, 1) := by decide +kernel
theorem dX9_rest_28 : decode cX9_rest 28 = .ok (.aload_n 0, 1) := by decide +kernel
theorem dX9_rest_29 : decode cX9_rest 29 = .ok (.iload_n 1, 1) := by decide +kernel
theorem dX9_rest_30 : decode cX9_rest 30 = .ok (.invokevirtual 168, 3) := by decide +kernel
theorem dX9_rest_33 : decode cX9_rest 33 = .ok (.ifCond .ne 5, 3) := by decide +kernel
theorem dX9_rest_36 : decode cX9_rest 36 = .ok (.iconst (-1), 1) := by decide +kernel
theorem dX9_rest_37 : decode cX9_rest 37 = .ok (.ireturn, 1) := by decide +kernel
theorem dX9_rest_38 : decode cX9_rest 38 = .ok (.iload_n 2, 1) := by decide +kernel
theorem dX9_rest_39 : decode cX9_rest 39 = .ok (.tableswitch 83 0 3 #[29, 36, 45, 56], 29) := by decide +kernel
theorem dX9_rest_68 : decode cX9_rest 68 = .ok (.aload_n 0, 1) := by decide +kernel
theorem dX9_rest_69 : decode cX9_rest 69 = .ok (.getfield 22, 3) := by decide +kernel
theorem dX9_rest_72 : decode cX9_rest 72 = .ok (.iload_n 1, 1) := by decide +kernel
theorem dX9_rest_73 : decode cX9_rest 73 = .ok (.iaload, 1) := by decide +kernel
theorem dX9_rest_74 : decode cX9_rest 74 = .ok (.ireturn, 1) := by decide +kernel
theorem dX9_rest_75 : decode cX9_rest 75 = .ok (.aload_n 0, 1) := by decide +kernel
theorem dX9_rest_76 : decode cX9_rest 76 = .ok (.getfield 28, 3) := by decide +kernel
theorem dX9_rest_79 : decode cX9_rest 79 = .ok (.iconst 2, 1) := by decide +kernel
theorem dX9_rest_80 : decode cX9_rest 80 = .ok (.iload_n 1, 1) := by decide +kernel
theorem dX9_rest_81 : decode cX9_rest 81 = .ok (.imul, 1) := by decide +kernel
theorem dX9_rest_82 : decode cX9_rest 82 = .ok (.iaload, 1) := by decide +kernel
theorem dX9_rest_83 : decode cX9_rest 83 = .ok (.ireturn, 1) := by decide +kernel
theorem dX9_rest_84 : decode cX9_rest 84 = .ok (.aload_n 0, 1) := by decide +kernel
theorem dX9_rest_85 : decode cX9_rest 85 = .ok (.getfield 28, 3) := by decide +kernel
theorem dX9_rest_88 : decode cX9_rest 88 = .ok (.iconst 2, 1) := by decide +kernel
theorem dX9_rest_89 : decode cX9_rest 89 = .ok (.iload_n 1, 1) := by decide +kernel
theorem dX9_rest_90 : decode cX9_rest 90 = .ok (.imul, 1) := by decide +kernel
theorem dX9_rest_91 : decode cX9_rest 91 = .ok (.iconst 1, 1) := by decide +kernel
theorem dX9_rest_92 : decode cX9_rest 92 = .ok (.iadd, 1) := by decide +kernel
theorem dX9_rest_93 : decode cX9_rest 93 = .ok (.iaload, 1) := by decide +kernel
theorem dX9_rest_94 : decode cX9_rest 94 = .ok (.ireturn, 1) := by decide +kernel
theorem dX9_rest_95 : decode cX9_rest 95 = .ok (.aload_n 0, 1) := by decide +kernel
theorem dX9_rest_96 : decode cX9_rest 96 = .ok (.getfield 22, 3) := by decide +kernel
theorem dX9_rest_99 : decode cX9_rest 99 = .ok (.iload_n 1, 1) := by decide +kernel
theorem dX9_rest_100 : decode cX9_rest 100 = .ok (.iaload, 1) := by decide +kernel
theorem dX9_rest_101 : decode cX9_rest 101 = .ok (.aload_n 0, 1) := by decide +kernel
theorem dX9_rest_102 : decode cX9_rest 102 = .ok (.getfield 28, 3) := by decide +kernel
theorem dX9_rest_105 : decode cX9_rest 105 = .ok (.iconst 2, 1) := by decide +kernel
theorem dX9_rest_106 : decode cX9_rest 106 = .ok (.iload_n 1, 1) := by decide +kernel
theorem dX9_rest_107 : decode cX9_rest 107 = .ok (.imul, 1) := by decide +kernel
theorem dX9_rest_108 : decode cX9_rest 108 = .ok (.iaload, 1) := by decide +kernel
theorem dX9_rest_109 : decode cX9_rest 109 = .ok (.isub, 1) := by decide +kernel
theorem dX9_rest_110 : decode cX9_rest 110 = .ok (.aload_n 0, 1) := by decide +kernel
theorem dX9_rest_111 : decode cX9_rest 111 = .ok (.getfield 28, 3) := by decide +kernel
theorem dX9_rest_114 : decode cX9_rest 114 = .ok (.iconst 2, 1) := by decide +kernel
theorem dX9_rest_115 : decode cX9_rest 115 = .ok (.iload_n 1, 1) := by decide +kernel
theorem dX9_rest_116 : decode cX9_rest 116 = .ok (.imul, 1) := by decide +kernel
theorem dX9_rest_117 : decode cX9_rest 117 = .ok (.iconst 1, 1) := by decide +kernel
theorem dX9_rest_118 : decode cX9_rest 118 = .ok (.iadd, 1) := by decide +kernel
theorem dX9_rest_119 : decode cX9_rest 119 = .ok (.iaload, 1) := by decide +kernel
theorem dX9_rest_120 : decode cX9_rest 120 = .ok (.isub, 1) := by decide +kernel
theorem dX9_rest_121 : decode cX9_rest 121 = .ok (.ireturn, 1) := by decide +kernel
theorem dX9_rest_122 : decode cX9_rest 122 = .ok (.iconst (-1), 1) := by decide +kernel
theorem dX9_rest_123 : decode cX9_rest 123 = .ok (.ireturn, 1) := by decide +kernel
theorem dX9_feed_0 : decode cX9_feed 0 = .ok (.iload_n 1, 1) := by decide +kernel
theorem dX9_feed_1 : decode cX9_feed 1 = .ok (.i2l, 1) := by decide +kernel
theorem dX9_feed_2 : decode cX9_feed 2 = .ok (.lconst 0, 1) := by decide +kernel
theorem dX9_feed_3 : decode cX9_feed 3 = .ok (.ldc2_w 171, 3) := by decide +kernel
theorem dX9_feed_6 : decode cX9_feed 6 = .ok (.invokestatic 114, 3) := by decide +kernel
theorem dX9_feed_9 : decode cX9_feed 9 = .ok (.ifCond .ne 5, 3) := by decide +kernel
theorem dX9_feed_12 : decode cX9_feed 12 = .ok (.iconst (-1), 1) := by decide +kernel
theorem dX9_feed_13 : decode cX9_feed 13 = .ok (.ireturn, 1) := by decide +kernel
theorem dX9_feed_14 : decode cX9_feed 14 = .ok (.aload_n 0, 1) := by decide +kernel
theorem dX9_feed_15 : decode cX9_feed 15 = .ok (.getfield 173, 3) := by decide +kernel
theorem dX9_feed_18 : decode cX9_feed 18 = .ok (.bipush 120, 2) := by decide +kernel
theorem dX9_feed_20 : decode cX9_feed 20 = .ok (.if_icmp .ne 6, 3) := by decide +kernel
theorem dX9_feed_23 : decode cX9_feed 23 = .ok (.bipush (-3), 2) := by decide +kernel
theorem dX9_feed_25 : decode cX9_feed 25 = .ok (.ireturn, 1) := by decide +kernel
theorem dX9_feed_26 : decode cX9_feed 26 = .ok (.aload_n 0, 1) := by decide +kernel
theorem dX9_feed_27 : decode cX9_feed 27 = .ok (.getfield 40, 3) := by decide +kernel
theorem dX9_feed_30 : decode cX9_feed 30 = .ok (.aload_n 0, 1) := by decide +kernel
theorem dX9_feed_31 : decode cX9_feed 31 = .ok (.getfield 173, 3) := by decide +kernel
theorem dX9_feed_34 : decode cX9_feed 34 = .ok (.iload_n 1, 1) := by decide +kernel
theorem dX9_feed_35 : decode cX9_feed 35 = .ok (.iastore, 1) := by decide +kernel
theorem dX9_feed_36 : decode cX9_feed 36 = .ok (.aload_n 0, 1) := by decide +kernel
theorem dX9_feed_37 : decode cX9_feed 37 = .ok (.dup, 1) := by decide +kernel
theorem dX9_feed_38 : decode cX9_feed 38 = .ok (.getfield 173, 3) := by decide +kernel
theorem dX9_feed_41 : decode cX9_feed 41 = .ok (.iconst 1, 1) := by decide +kernel
theorem dX9_feed_42 : decode cX9_feed 42 = .ok (.iadd, 1) := by decide +kernel
theorem dX9_feed_43 : decode cX9_feed 43 = .ok (.putfield 173, 3) := by decide +kernel
theorem dX9_feed_46 : decode cX9_feed 46 = .ok (.aload_n 0, 1) := by decide +kernel
theorem dX9_feed_47 : decode cX9_feed 47 = .ok (.getfield 173, 3) := by decide +kernel
theorem dX9_feed_50 : decode cX9_feed 50 = .ok (.ireturn, 1) := by decide +kernel
theorem dX9_byteAt_0 : decode cX9_byteAt 0 = .ok (.aload_n 0, 1) := by decide +kernel
theorem dX9_byteAt_1 : decode cX9_byteAt 1 = .ok (.getfield 176, 3) := by decide +kernel
theorem dX9_byteAt_4 : decode cX9_byteAt 4 = .ok (.aload_n 0, 1) := by decide +kernel
theorem dX9_byteAt_5 : decode cX9_byteAt 5 = .ok (.getfield 179, 3) := by decide +kernel
theorem dX9_byteAt_8 : decode cX9_byteAt 8 = .ok (.if_icmp .ge 39, 3) := by decide +kernel
theorem dX9_byteAt_11 : decode cX9_byteAt 11 = .ok (.aload_n 0, 1) := by decide +kernel
theorem dX9_byteAt_12 : decode cX9_byteAt 12 = .ok (.getfield 182, 3) := by decide +kernel
theorem dX9_byteAt_15 : decode cX9_byteAt 15 = .ok (.ifCond .ge 15, 3) := by decide +kernel
theorem dX9_byteAt_18 : decode cX9_byteAt 18 = .ok (.aload_n 0, 1) := by decide +kernel
theorem dX9_byteAt_19 : decode cX9_byteAt 19 = .ok (.getfield 40, 3) := by decide +kernel
theorem dX9_byteAt_22 : decode cX9_byteAt 22 = .ok (.aload_n 0, 1) := by decide +kernel
theorem dX9_byteAt_23 : decode cX9_byteAt 23 = .ok (.getfield 176, 3) := by decide +kernel
theorem dX9_byteAt_26 : decode cX9_byteAt 26 = .ok (.iaload, 1) := by decide +kernel
theorem dX9_byteAt_27 : decode cX9_byteAt 27 = .ok (.goto 21, 3) := by decide +kernel
theorem dX9_byteAt_30 : decode cX9_byteAt 30 = .ok (.aload_n 0, 1) := by decide +kernel
theorem dX9_byteAt_31 : decode cX9_byteAt 31 = .ok (.getfield 43, 3) := by decide +kernel
theorem dX9_byteAt_34 : decode cX9_byteAt 34 = .ok (.aload_n 0, 1) := by decide +kernel
theorem dX9_byteAt_35 : decode cX9_byteAt 35 = .ok (.getfield 182, 3) := by decide +kernel
theorem dX9_byteAt_38 : decode cX9_byteAt 38 = .ok (.aload_n 0, 1) := by decide +kernel
theorem dX9_byteAt_39 : decode cX9_byteAt 39 = .ok (.getfield 176, 3) := by decide +kernel
theorem dX9_byteAt_42 : decode cX9_byteAt 42 = .ok (.iadd, 1) := by decide +kernel
theorem dX9_byteAt_43 : decode cX9_byteAt 43 = .ok (.iaload, 1) := by decide +kernel
theorem dX9_byteAt_44 : decode cX9_byteAt 44 = .ok (.goto 4, 3) := by decide +kernel
theorem dX9_byteAt_47 : decode cX9_byteAt 47 = .ok (.iconst 0, 1) := by decide +kernel
theorem dX9_byteAt_48 : decode cX9_byteAt 48 = .ok (.ireturn, 1) := by decide +kernel
theorem dX9_wrong_0 : decode cX9_wrong 0 = .ok (.aload_n 0, 1) := by decide +kernel
theorem dX9_wrong_1 : decode cX9_wrong 1 = .ok (.aload_n 0, 1) := by decide +kernel
theorem dX9_wrong_2 : decode cX9_wrong 2 = .ok (.getfield 185, 3) := by decide +kernel
theorem dX9_wrong_5 : decode cX9_wrong 5 = .ok (.ifCond .ge 10, 3) := by decide +kernel
theorem dX9_wrong_8 : decode cX9_wrong 8 = .ok (.aload_n 0, 1) := by decide +kernel
theorem dX9_wrong_9 : decode cX9_wrong 9 = .ok (.getfield 176, 3) := by decide +kernel
theorem dX9_wrong_12 : decode cX9_wrong 12 = .ok (.goto 7, 3) := by decide +kernel
theorem dX9_wrong_15 : decode cX9_wrong 15 = .ok (.aload_n 0, 1) := by decide +kernel
theorem dX9_wrong_16 : decode cX9_wrong 16 = .ok (.getfield 185, 3) := by decide +kernel
theorem dX9_wrong_19 : decode cX9_wrong 19 = .ok (.putfield 185, 3) := by decide +kernel
theorem dX9_wrong_22 : decode cX9_wrong 22 = .ok (.iconst 0, 1) := by decide +kernel
theorem dX9_wrong_23 : decode cX9_wrong 23 = .ok (.ireturn, 1) := by decide +kernel
theorem dX9_takes_0 : decode cX9_takes 0 = .ok (.aload_n 0, 1) := by decide +kernel
theorem dX9_takes_1 : decode cX9_takes 1 = .ok (.getfield 185, 3) := by decide +kernel
theorem dX9_takes_4 : decode cX9_takes 4 = .ok (.ifCond .ge 11, 3) := by decide +kernel
theorem dX9_takes_7 : decode cX9_takes 7 = .ok (.aload_n 0, 1) := by decide +kernel
theorem dX9_takes_8 : decode cX9_takes 8 = .ok (.invokevirtual 188, 3) := by decide +kernel
theorem dX9_takes_11 : decode cX9_takes 11 = .ok (.iload_n 1, 1) := by decide +kernel
theorem dX9_takes_12 : decode cX9_takes 12 = .ok (.if_icmp .eq 5, 3) := by decide +kernel
theorem dX9_takes_15 : decode cX9_takes 15 = .ok (.iconst 0, 1) := by decide +kernel
theorem dX9_takes_16 : decode cX9_takes 16 = .ok (.ireturn, 1) := by decide +kernel
theorem dX9_takes_17 : decode cX9_takes 17 = .ok (.aload_n 0, 1) := by decide +kernel
theorem dX9_takes_18 : decode cX9_takes 18 = .ok (.dup, 1) := by decide +kernel
theorem dX9_takes_19 : decode cX9_takes 19 = .ok (.getfield 176, 3) := by decide +kernel
theorem dX9_takes_22 : decode cX9_takes 22 = .ok (.iconst 1, 1) := by decide +kernel
theorem dX9_takes_23 : decode cX9_takes 23 = .ok (.iadd, 1) := by decide +kernel
theorem dX9_takes_24 : decode cX9_takes 24 = .ok (.putfield 176, 3) := by decide +kernel
theorem dX9_takes_27 : decode cX9_takes 27 = .ok (.iconst 1, 1) := by decide +kernel
theorem dX9_takes_28 : decode cX9_takes 28 = .ok (.ireturn, 1) := by decide +kernel
theorem dX9_either_0 : decode cX9_either 0 = .ok (.aload_n 0, 1) := by decide +kernel
theorem dX9_either_1 : decode cX9_either 1 = .ok (.invokevirtual 191, 3) := by decide +kernel
theorem dX9_either_4 : decode cX9_either 4 = .ok (.istore_n 1, 1) := by decide +kernel
theorem dX9_either_5 : decode cX9_either 5 = .ok (.aload_n 0, 1) := by decide +kernel
theorem dX9_either_6 : decode cX9_either 6 = .ok (.bipush 124, 2) := by decide +kernel
theorem dX9_either_8 : decode cX9_either 8 = .ok (.invokevirtual 194, 3) := by decide +kernel
theorem dX9_either_11 : decode cX9_either 11 = .ok (.ifCond .eq 25, 3) := by decide +kernel
theorem dX9_either_14 : decode cX9_either 14 = .ok (.aload_n 0, 1) := by decide +kernel
theorem dX9_either_15 : decode cX9_either 15 = .ok (.invokevirtual 191, 3) := by decide +kernel
theorem dX9_either_18 : decode cX9_either 18 = .ok (.istore_n 2, 1) := by decide +kernel
theorem dX9_either_19 : decode cX9_either 19 = .ok (.iload_n 1, 1) := by decide +kernel
theorem dX9_either_20 : decode cX9_either 20 = .ok (.ifCond .ne 7, 3) := by decide +kernel
theorem dX9_either_23 : decode cX9_either 23 = .ok (.iload_n 2, 1) := by decide +kernel
theorem dX9_either_24 : decode cX9_either 24 = .ok (.ifCond .eq 7, 3) := by decide +kernel
theorem dX9_either_27 : decode cX9_either 27 = .ok (.iconst 1, 1) := by decide +kernel
theorem dX9_either_28 : decode cX9_either 28 = .ok (.goto 4, 3) := by decide +kernel
theorem dX9_either_31 : decode cX9_either 31 = .ok (.iconst 0, 1) := by decide +kernel
theorem dX9_either_32 : decode cX9_either 32 = .ok (.istore_n 1, 1) := by decide +kernel
theorem dX9_either_33 : decode cX9_either 33 = .ok (.goto (-28), 3) := by decide +kernel
theorem dX9_either_36 : decode cX9_either 36 = .ok (.iload_n 1, 1) := by decide +kernel
theorem dX9_either_37 : decode cX9_either 37 = .ok (.ireturn, 1) := by decide +kernel
theorem dX9_bothOf_0 : decode cX9_bothOf 0 = .ok (.aload_n 0, 1) := by decide +kernel
theorem dX9_bothOf_1 : decode cX9_bothOf 1 = .ok (.invokevirtual 197, 3) := by decide +kernel
theorem dX9_bothOf_4 : decode cX9_bothOf 4 = .ok (.istore_n 1, 1) := by decide +kernel
theorem dX9_bothOf_5 : decode cX9_bothOf 5 = .ok (.aload_n 0, 1) := by decide +kernel
theorem dX9_bothOf_6 : decode cX9_bothOf 6 = .ok (.bipush 38, 2) := by decide +kernel
theorem dX9_bothOf_8 : decode cX9_bothOf 8 = .ok (.invokevirtual 194, 3) := by decide +kernel
theorem dX9_bothOf_11 : decode cX9_bothOf 11 = .ok (.ifCond .eq 25, 3) := by decide +kernel
theorem dX9_bothOf_14 : decode cX9_bothOf 14 = .ok (.aload_n 0, 1) := by decide +kernel
theorem dX9_bothOf_15 : decode cX9_bothOf 15 = .ok (.invokevirtual 197, 3) := by decide +kernel
theorem dX9_bothOf_18 : decode cX9_bothOf 18 = .ok (.istore_n 2, 1) := by decide +kernel
theorem dX9_bothOf_19 : decode cX9_bothOf 19 = .ok (.iload_n 1, 1) := by decide +kernel
theorem dX9_bothOf_20 : decode cX9_bothOf 20 = .ok (.ifCond .eq 11, 3) := by decide +kernel
theorem dX9_bothOf_23 : decode cX9_bothOf 23 = .ok (.iload_n 2, 1) := by decide +kernel
theorem dX9_bothOf_24 : decode cX9_bothOf 24 = .ok (.ifCond .eq 7, 3) := by decide +kernel
theorem dX9_bothOf_27 : decode cX9_bothOf 27 = .ok (.iconst 1, 1) := by decide +kernel
theorem dX9_bothOf_28 : decode cX9_bothOf 28 = .ok (.goto 4, 3) := by decide +kernel
theorem dX9_bothOf_31 : decode cX9_bothOf 31 = .ok (.iconst 0, 1) := by decide +kernel
theorem dX9_bothOf_32 : decode cX9_bothOf 32 = .ok (.istore_n 1, 1) := by decide +kernel
theorem dX9_bothOf_33 : decode cX9_bothOf 33 = .ok (.goto (-28), 3) := by decide +kernel
theorem dX9_bothOf_36 : decode cX9_bothOf 36 = .ok (.iload_n 1, 1) := by decide +kernel
theorem dX9_bothOf_37 : decode cX9_bothOf 37 = .ok (.ireturn, 1) := by decide +kernel
theorem dX9_compared_0 : decode cX9_compared 0 = .ok (.aload_n 0, 1) := by decide +kernel
theorem dX9_compared_1 : decode cX9_compared 1 = .ok (.invokevirtual 200, 3) := by decide +kernel
theorem dX9_compared_4 : decode cX9_compared 4 = .ok (.istore_n 1, 1) := by decide +kernel
theorem dX9_compared_5 : decode cX9_compared 5 = .ok (.aload_n 0, 1) := by decide +kernel
theorem dX9_compared_6 : decode cX9_compared 6 = .ok (.invokevirtual 188, 3) := by decide +kernel
theorem dX9_compared_9 : decode cX9_compared 9 = .ok (.istore_n 2, 1) := by decide +kernel
theorem dX9_compared_10 : decode cX9_compared 10 = .ok (.aload_n 0, 1) := by decide +kernel
theorem dX9_compared_11 : decode cX9_compared 11 = .ok (.getfield 185, 3) := by decide +kernel
theorem dX9_compared_14 : decode cX9_compared 14 = .ok (.ifCond .ge 21, 3) := by decide +kernel
theorem dX9_compared_17 : decode cX9_compared 17 = .ok (.iload_n 2, 1) := by decide +kernel
theorem dX9_compared_18 : decode cX9_compared 18 = .ok (.bipush 60, 2) := by decide +kernel
theorem dX9_compared_20 : decode cX9_compared 20 = .ok (.if_icmp .eq 17, 3) := by decide +kernel
theorem dX9_compared_23 : decode cX9_compared 23 = .ok (.iload_n 2, 1) := by decide +kernel
theorem dX9_compared_24 : decode cX9_compared 24 = .ok (.bipush 61, 2) := by decide +kernel
theorem dX9_compared_26 : decode cX9_compared 26 = .ok (.if_icmp .eq 11, 3) := by decide +kernel
theorem dX9_compared_29 : decode cX9_compared 29 = .ok (.iload_n 2, 1) := by decide +kernel
theorem dX9_compared_30 : decode cX9_compared 30 = .ok (.bipush 62, 2) := by decide +kernel
theorem dX9_compared_32 : decode cX9_compared 32 = .ok (.if_icmp .eq 5, 3) := by decide +kernel
theorem dX9_compared_35 : decode cX9_compared 35 = .ok (.iload_n 1, 1) := by decide +kernel
theorem dX9_compared_36 : decode cX9_compared 36 = .ok (.ireturn, 1) := by decide +kernel
theorem dX9_compared_37 : decode cX9_compared 37 = .ok (.aload_n 0, 1) := by decide +kernel
theorem dX9_compared_38 : decode cX9_compared 38 = .ok (.dup, 1) := by decide +kernel
theorem dX9_compared_39 : decode cX9_compared 39 = .ok (.getfield 176, 3) := by decide +kernel
theorem dX9_compared_42 : decode cX9_compared 42 = .ok (.iconst 1, 1) := by decide +kernel
theorem dX9_compared_43 : decode cX9_compared 43 = .ok (.iadd, 1) := by decide +kernel
theorem dX9_compared_44 : decode cX9_compared 44 = .ok (.putfield 176, 3) := by decide +kernel
theorem dX9_compared_47 : decode cX9_compared 47 = .ok (.aload_n 0, 1) := by decide +kernel
theorem dX9_compared_48 : decode cX9_compared 48 = .ok (.invokevirtual 200, 3) := by decide +kernel
theorem dX9_compared_51 : decode cX9_compared 51 = .ok (.istore_n 3, 1) := by decide +kernel
theorem dX9_compared_52 : decode cX9_compared 52 = .ok (.iload_n 2, 1) := by decide +kernel
theorem dX9_compared_53 : decode cX9_compared 53 = .ok (.bipush 60, 2) := by decide +kernel
theorem dX9_compared_55 : decode cX9_compared 55 = .ok (.if_icmp .ne 11, 3) := by decide +kernel
theorem dX9_compared_58 : decode cX9_compared 58 = .ok (.iload_n 1, 1) := by decide +kernel
theorem dX9_compared_59 : decode cX9_compared 59 = .ok (.iload_n 3, 1) := by decide +kernel
theorem dX9_compared_60 : decode cX9_compared 60 = .ok (.if_icmp .ge 29, 3) := by decide +kernel
theorem dX9_compared_63 : decode cX9_compared 63 = .ok (.goto 22, 3) := by decide +kernel
theorem dX9_compared_66 : decode cX9_compared 66 = .ok (.iload_n 2, 1) := by decide +kernel
theorem dX9_compared_67 : decode cX9_compared 67 = .ok (.bipush 61, 2) := by decide +kernel
theorem dX9_compared_69 : decode cX9_compared 69 = .ok (.if_icmp .ne 11, 3) := by decide +kernel
theorem dX9_compared_72 : decode cX9_compared 72 = .ok (.iload_n 1, 1) := by decide +kernel
theorem dX9_compared_73 : decode cX9_compared 73 = .ok (.iload_n 3, 1) := by decide +kernel
theorem dX9_compared_74 : decode cX9_compared 74 = .ok (.if_icmp .ne 15, 3) := by decide +kernel
theorem dX9_compared_77 : decode cX9_compared 77 = .ok (.goto 8, 3) := by decide +kernel
theorem dX9_compared_80 : decode cX9_compared 80 = .ok (.iload_n 1, 1) := by decide +kernel
theorem dX9_compared_81 : decode cX9_compared 81 = .ok (.iload_n 3, 1) := by decide +kernel
theorem dX9_compared_82 : decode cX9_compared 82 = .ok (.if_icmp .le 7, 3) := by decide +kernel
theorem dX9_compared_85 : decode cX9_compared 85 = .ok (.iconst 1, 1) := by decide +kernel
theorem dX9_compared_86 : decode cX9_compared 86 = .ok (.goto 4, 3) := by decide +kernel
theorem dX9_compared_89 : decode cX9_compared 89 = .ok (.iconst 0, 1) := by decide +kernel
theorem dX9_compared_90 : decode cX9_compared 90 = .ok (.ireturn, 1) := by decide +kernel
theorem dX9_sums_0 : decode cX9_sums 0 = .ok (.aload_n 0, 1) := by decide +kernel
theorem dX9_sums_1 : decode cX9_sums 1 = .ok (.invokevirtual 203, 3) := by decide +kernel
theorem dX9_sums_4 : decode cX9_sums 4 = .ok (.istore_n 1, 1) := by decide +kernel
theorem dX9_sums_5 : decode cX9_sums 5 = .ok (.aload_n 0, 1) := by decide +kernel
theorem dX9_sums_6 : decode cX9_sums 6 = .ok (.getfield 185, 3) := by decide +kernel
theorem dX9_sums_9 : decode cX9_sums 9 = .ok (.ifCond .ge 68, 3) := by decide +kernel
theorem dX9_sums_12 : decode cX9_sums 12 = .ok (.aload_n 0, 1) := by decide +kernel
theorem dX9_sums_13 : decode cX9_sums 13 = .ok (.invokevirtual 188, 3) := by decide +kernel
theorem dX9_sums_16 : decode cX9_sums 16 = .ok (.bipush 43, 2) := by decide +kernel
theorem dX9_sums_18 : decode cX9_sums 18 = .ok (.if_icmp .eq 12, 3) := by decide +kernel
theorem dX9_sums_21 : decode cX9_sums 21 = .ok (.aload_n 0, 1) := by decide +kernel
theorem dX9_sums_22 : decode cX9_sums 22 = .ok (.invokevirtual 188, 3) := by decide +kernel
theorem dX9_sums_25 : decode cX9_sums 25 = .ok (.bipush 45, 2) := by decide +kernel
theorem dX9_sums_27 : decode cX9_sums 27 = .ok (.if_icmp .ne 50, 3) := by decide +kernel
theorem dX9_sums_30 : decode cX9_sums 30 = .ok (.aload_n 0, 1) := by decide +kernel
theorem dX9_sums_31 : decode cX9_sums 31 = .ok (.invokevirtual 188, 3) := by decide +kernel
theorem dX9_sums_34 : decode cX9_sums 34 = .ok (.bipush 43, 2) := by decide +kernel
theorem dX9_sums_36 : decode cX9_sums 36 = .ok (.if_icmp .ne 7, 3) := by decide +kernel
theorem dX9_sums_39 : decode cX9_sums 39 = .ok (.iconst 1, 1) := by decide +kernel
theorem dX9_sums_40 : decode cX9_sums 40 = .ok (.goto 4, 3) := by decide +kernel
theorem dX9_sums_43 : decode cX9_sums 43 = .ok (.iconst 0, 1) := by decide +kernel
theorem dX9_sums_44 : decode cX9_sums 44 = .ok (.istore_n 2, 1) := by decide +kernel
theorem dX9_sums_45 : decode cX9_sums 45 = .ok (.aload_n 0, 1) := by decide +kernel
theorem dX9_sums_46 : decode cX9_sums 46 = .ok (.dup, 1) := by decide +kernel
theorem dX9_sums_47 : decode cX9_sums 47 = .ok (.getfield 176, 3) := by decide +kernel
theorem dX9_sums_50 : decode cX9_sums 50 = .ok (.iconst 1, 1) := by decide +kernel
theorem dX9_sums_51 : decode cX9_sums 51 = .ok (.iadd, 1) := by decide +kernel
theorem dX9_sums_52 : decode cX9_sums 52 = .ok (.putfield 176, 3) := by decide +kernel
theorem dX9_sums_55 : decode cX9_sums 55 = .ok (.aload_n 0, 1) := by decide +kernel
theorem dX9_sums_56 : decode cX9_sums 56 = .ok (.invokevirtual 203, 3) := by decide +kernel
theorem dX9_sums_59 : decode cX9_sums 59 = .ok (.istore_n 3, 1) := by decide +kernel
theorem dX9_sums_60 : decode cX9_sums 60 = .ok (.iload_n 2, 1) := by decide +kernel
theorem dX9_sums_61 : decode cX9_sums 61 = .ok (.ifCond .eq 9, 3) := by decide +kernel
theorem dX9_sums_64 : decode cX9_sums 64 = .ok (.iload_n 1, 1) := by decide +kernel
theorem dX9_sums_65 : decode cX9_sums 65 = .ok (.iload_n 3, 1) := by decide +kernel
theorem dX9_sums_66 : decode cX9_sums 66 = .ok (.iadd, 1) := by decide +kernel
theorem dX9_sums_67 : decode cX9_sums 67 = .ok (.goto 6, 3) := by decide +kernel
theorem dX9_sums_70 : decode cX9_sums 70 = .ok (.iload_n 1, 1) := by decide +kernel
theorem dX9_sums_71 : decode cX9_sums 71 = .ok (.iload_n 3, 1) := by decide +kernel
theorem dX9_sums_72 : decode cX9_sums 72 = .ok (.isub, 1) := by decide +kernel
theorem dX9_sums_73 : decode cX9_sums 73 = .ok (.istore_n 1, 1) := by decide +kernel
theorem dX9_sums_74 : decode cX9_sums 74 = .ok (.goto (-69), 3) := by decide +kernel
theorem dX9_sums_77 : decode cX9_sums 77 = .ok (.iload_n 1, 1) := by decide +kernel
theorem dX9_sums_78 : decode cX9_sums 78 = .ok (.ireturn, 1) := by decide +kernel
theorem dX9_product_0 : decode cX9_product 0 = .ok (.aload_n 0, 1) := by decide +kernel
theorem dX9_product_1 : decode cX9_product 1 = .ok (.invokevirtual 206, 3) := by decide +kernel
theorem dX9_product_4 : decode cX9_product 4 = .ok (.istore_n 1, 1) := by decide +kernel
theorem dX9_product_5 : decode cX9_product 5 = .ok (.aload_n 0, 1) := by decide +kernel
theorem dX9_product_6 : decode cX9_product 6 = .ok (.invokevirtual 188, 3) := by decide +kernel
theorem dX9_product_9 : decode cX9_product 9 = .ok (.istore_n 2, 1) := by decide +kernel
theorem dX9_product_10 : decode cX9_product 10 = .ok (.aload_n 0, 1) := by decide +kernel
theorem dX9_product_11 : decode cX9_product 11 = .ok (.getfield 185, 3) := by decide +kernel
theorem dX9_product_14 : decode cX9_product 14 = .ok (.ifCond .ge 80, 3) := by decide +kernel
theorem dX9_product_17 : decode cX9_product 17 = .ok (.iload_n 2, 1) := by decide +kernel
theorem dX9_product_18 : decode cX9_product 18 = .ok (.bipush 42, 2) := by decide +kernel
theorem dX9_product_20 : decode cX9_product 20 = .ok (.if_icmp .eq 15, 3) := by decide +kernel
theorem dX9_product_23 : decode cX9_product 23 = .ok (.iload_n 2, 1) := by decide +kernel
theorem dX9_product_24 : decode cX9_product 24 = .ok (.bipush 47, 2) := by decide +kernel
theorem dX9_product_26 : decode cX9_product 26 = .ok (.if_icmp .eq 9, 3) := by decide +kernel
theorem dX9_product_29 : decode cX9_product 29 = .ok (.iload_n 2, 1) := by decide +kernel
theorem dX9_product_30 : decode cX9_product 30 = .ok (.bipush 37, 2) := by decide +kernel
theorem dX9_product_32 : decode cX9_product 32 = .ok (.if_icmp .ne 62, 3) := by decide +kernel
theorem dX9_product_35 : decode cX9_product 35 = .ok (.aload_n 0, 1) := by decide +kernel
theorem dX9_product_36 : decode cX9_product 36 = .ok (.dup, 1) := by decide +kernel
theorem dX9_product_37 : decode cX9_product 37 = .ok (.getfield 176, 3) := by decide +kernel
theorem dX9_product_40 : decode cX9_product 40 = .ok (.iconst 1, 1) := by decide +kernel
theorem dX9_product_41 : decode cX9_product 41 = .ok (.iadd, 1) := by decide +kernel
theorem dX9_product_42 : decode cX9_product 42 = .ok (.putfield 176, 3) := by decide +kernel
theorem dX9_product_45 : decode cX9_product 45 = .ok (.aload_n 0, 1) := by decide +kernel
theorem dX9_product_46 : decode cX9_product 46 = .ok (.invokevirtual 206, 3) := by decide +kernel
theorem dX9_product_49 : decode cX9_product 49 = .ok (.istore_n 3, 1) := by decide +kernel
theorem dX9_product_50 : decode cX9_product 50 = .ok (.iload_n 2, 1) := by decide +kernel
theorem dX9_product_51 : decode cX9_product 51 = .ok (.bipush 42, 2) := by decide +kernel
theorem dX9_product_53 : decode cX9_product 53 = .ok (.if_icmp .ne 9, 3) := by decide +kernel
theorem dX9_product_56 : decode cX9_product 56 = .ok (.iload_n 1, 1) := by decide +kernel
theorem dX9_product_57 : decode cX9_product 57 = .ok (.iload_n 3, 1) := by decide +kernel
theorem dX9_product_58 : decode cX9_product 58 = .ok (.imul, 1) := by decide +kernel
theorem dX9_product_59 : decode cX9_product 59 = .ok (.goto 26, 3) := by decide +kernel
theorem dX9_product_62 : decode cX9_product 62 = .ok (.iload_n 3, 1) := by decide +kernel
theorem dX9_product_63 : decode cX9_product 63 = .ok (.ifCond .ne 7, 3) := by decide +kernel
theorem dX9_product_66 : decode cX9_product 66 = .ok (.iconst 0, 1) := by decide +kernel
theorem dX9_product_67 : decode cX9_product 67 = .ok (.goto 18, 3) := by decide +kernel
theorem dX9_product_70 : decode cX9_product 70 = .ok (.iload_n 2, 1) := by decide +kernel
theorem dX9_product_71 : decode cX9_product 71 = .ok (.bipush 47, 2) := by decide +kernel
theorem dX9_product_73 : decode cX9_product 73 = .ok (.if_icmp .ne 9, 3) := by decide +kernel
theorem dX9_product_76 : decode cX9_product 76 = .ok (.iload_n 1, 1) := by decide +kernel
theorem dX9_product_77 : decode cX9_product 77 = .ok (.iload_n 3, 1) := by decide +kernel
theorem dX9_product_78 : decode cX9_product 78 = .ok (.idiv, 1) := by decide +kernel
theorem dX9_product_79 : decode cX9_product 79 = .ok (.goto 6, 3) := by decide +kernel
theorem dX9_product_82 : decode cX9_product 82 = .ok (.iload_n 1, 1) := by decide +kernel
theorem dX9_product_83 : decode cX9_product 83 = .ok (.iload_n 3, 1) := by decide +kernel
theorem dX9_product_84 : decode cX9_product 84 = .ok (.irem, 1) := by decide +kernel
theorem dX9_product_85 : decode cX9_product 85 = .ok (.istore_n 1, 1) := by decide +kernel
theorem dX9_product_86 : decode cX9_product 86 = .ok (.aload_n 0, 1) := by decide +kernel
theorem dX9_product_87 : decode cX9_product 87 = .ok (.invokevirtual 188, 3) := by decide +kernel
theorem dX9_product_90 : decode cX9_product 90 = .ok (.istore_n 2, 1) := by decide +kernel
theorem dX9_product_91 : decode cX9_product 91 = .ok (.goto (-81), 3) := by decide +kernel
theorem dX9_product_94 : decode cX9_product 94 = .ok (.iload_n 1, 1) := by decide +kernel
theorem dX9_product_95 : decode cX9_product 95 = .ok (.ireturn, 1) := by decide +kernel
theorem dX9_nameOf_0 : decode cX9_nameOf 0 = .ok (.iload_n 0, 1) := by decide +kernel
theorem dX9_nameOf_1 : decode cX9_nameOf 1 = .ok (.tableswitch 132 99 122 #[126, 132, 132, 132, 132, 129, 117, 119, 132, 132, 123, 132, 132, 113, 132, 115, 111, 132, 132, 132, 132, 132, 132, 121], 111) := by decide +kernel
theorem dX9_nameOf_112 : decode cX9_nameOf 112 = .ok (.iconst 0, 1) := by decide +kernel
theorem dX9_nameOf_113 : decode cX9_nameOf 113 = .ok (.ireturn, 1) := by decide +kernel
theorem dX9_nameOf_114 : decode cX9_nameOf 114 = .ok (.iconst 1, 1) := by decide +kernel
theorem dX9_nameOf_115 : decode cX9_nameOf 115 = .ok (.ireturn, 1) := by decide +kernel
theorem dX9_nameOf_116 : decode cX9_nameOf 116 = .ok (.iconst 2, 1) := by decide +kernel
theorem dX9_nameOf_117 : decode cX9_nameOf 117 = .ok (.ireturn, 1) := by decide +kernel
theorem dX9_nameOf_118 : decode cX9_nameOf 118 = .ok (.iconst 3, 1) := by decide +kernel
theorem dX9_nameOf_119 : decode cX9_nameOf 119 = .ok (.ireturn, 1) := by decide +kernel
theorem dX9_nameOf_120 : decode cX9_nameOf 120 = .ok (.iconst 4, 1) := by decide +kernel
theorem dX9_nameOf_121 : decode cX9_nameOf 121 = .ok (.ireturn, 1) := by decide +kernel
theorem dX9_nameOf_122 : decode cX9_nameOf 122 = .ok (.iconst 5, 1) := by decide +kernel
theorem dX9_nameOf_123 : decode cX9_nameOf 123 = .ok (.ireturn, 1) := by decide +kernel
theorem dX9_nameOf_124 : decode cX9_nameOf 124 = .ok (.bipush 6, 2) := by decide +kernel
theorem dX9_nameOf_126 : decode cX9_nameOf 126 = .ok (.ireturn, 1) := by decide +kernel
theorem dX9_nameOf_127 : decode cX9_nameOf 127 = .ok (.bipush 7, 2) := by decide +kernel
theorem dX9_nameOf_129 : decode cX9_nameOf 129 = .ok (.ireturn, 1) := by decide +kernel
theorem dX9_nameOf_130 : decode cX9_nameOf 130 = .ok (.bipush 8, 2) := by decide +kernel
theorem dX9_nameOf_132 : decode cX9_nameOf 132 = .ok (.ireturn, 1) := by decide +kernel
theorem dX9_nameOf_133 : decode cX9_nameOf 133 = .ok (.iconst (-1), 1) := by decide +kernel
theorem dX9_nameOf_134 : decode cX9_nameOf 134 = .ok (.ireturn, 1) := by decide +kernel
theorem dX9_one_0 : decode cX9_one 0 = .ok (.aload_n 0, 1) := by decide +kernel
theorem dX9_one_1 : decode cX9_one 1 = .ok (.getfield 185, 3) := by decide +kernel
theorem dX9_one_4 : decode cX9_one 4 = .ok (.ifCond .lt 5, 3) := by decide +kernel
theorem dX9_one_7 : decode cX9_one 7 = .ok (.iconst 0, 1) := by decide +kernel
theorem dX9_one_8 : decode cX9_one 8 = .ok (.ireturn, 1) := by decide +kernel
theorem dX9_one_9 : decode cX9_one 9 = .ok (.aload_n 0, 1) := by decide +kernel
theorem dX9_one_10 : decode cX9_one 10 = .ok (.invokevirtual 188, 3) := by decide +kernel
theorem dX9_one_13 : decode cX9_one 13 = .ok (.istore_n 1, 1) := by decide +kernel
theorem dX9_one_14 : decode cX9_one 14 = .ok (.iload_n 1, 1) := by decide +kernel
theorem dX9_one_15 : decode cX9_one 15 = .ok (.bipush 33, 2) := by decide +kernel
theorem dX9_one_17 : decode cX9_one 17 = .ok (.if_icmp .eq 15, 3) := by decide +kernel
theorem dX9_one_20 : decode cX9_one 20 = .ok (.iload_n 1, 1) := by decide +kernel
theorem dX9_one_21 : decode cX9_one 21 = .ok (.bipush 45, 2) := by decide +kernel
theorem dX9_one_23 : decode cX9_one 23 = .ok (.if_icmp .eq 9, 3) := by decide +kernel
theorem dX9_one_26 : decode cX9_one 26 = .ok (.iload_n 1, 1) := by decide +kernel
theorem dX9_one_27 : decode cX9_one 27 = .ok (.bipush 40, 2) := by decide +kernel
theorem dX9_one_29 : decode cX9_one 29 = .ok (.if_icmp .ne 116, 3) := by decide +kernel
theorem dX9_one_32 : decode cX9_one 32 = .ok (.aload_n 0, 1) := by decide +kernel
theorem dX9_one_33 : decode cX9_one 33 = .ok (.getfield 209, 3) := by decide +kernel
theorem dX9_one_36 : decode cX9_one 36 = .ok (.bipush 6, 2) := by decide +kernel
theorem dX9_one_38 : decode cX9_one 38 = .ok (.if_icmp .ne 8, 3) := by decide +kernel
theorem dX9_one_41 : decode cX9_one 41 = .ok (.aload_n 0, 1) := by decide +kernel
theorem dX9_one_42 : decode cX9_one 42 = .ok (.invokevirtual 212, 3) := by decide +kernel
theorem dX9_one_45 : decode cX9_one 45 = .ok (.ireturn, 1) := by decide +kernel
theorem dX9_one_46 : decode cX9_one 46 = .ok (.aload_n 0, 1) := by decide +kernel
theorem dX9_one_47 : decode cX9_one 47 = .ok (.dup, 1) := by decide +kernel
theorem dX9_one_48 : decode cX9_one 48 = .ok (.getfield 209, 3) := by decide +kernel
theorem dX9_one_51 : decode cX9_one 51 = .ok (.iconst 1, 1) := by decide +kernel
theorem dX9_one_52 : decode cX9_one 52 = .ok (.iadd, 1) := by decide +kernel
theorem dX9_one_53 : decode cX9_one 53 = .ok (.putfield 209, 3) := by decide +kernel
theorem dX9_one_56 : decode cX9_one 56 = .ok (.aload_n 0, 1) := by decide +kernel
theorem dX9_one_57 : decode cX9_one 57 = .ok (.dup, 1) := by decide +kernel
theorem dX9_one_58 : decode cX9_one 58 = .ok (.getfield 176, 3) := by decide +kernel
theorem dX9_one_61 : decode cX9_one 61 = .ok (.iconst 1, 1) := by decide +kernel
theorem dX9_one_62 : decode cX9_one 62 = .ok (.iadd, 1) := by decide +kernel
theorem dX9_one_63 : decode cX9_one 63 = .ok (.putfield 176, 3) := by decide +kernel
theorem dX9_one_66 : decode cX9_one 66 = .ok (.iload_n 1, 1) := by decide +kernel
theorem dX9_one_67 : decode cX9_one 67 = .ok (.bipush 40, 2) := by decide +kernel
theorem dX9_one_69 : decode cX9_one 69 = .ok (.if_icmp .ne 10, 3) := by decide +kernel
theorem dX9_one_72 : decode cX9_one 72 = .ok (.aload_n 0, 1) := by decide +kernel
theorem dX9_one_73 : decode cX9_one 73 = .ok (.invokevirtual 215, 3) := by decide +kernel
theorem dX9_one_76 : decode cX9_one 76 = .ok (.goto 7, 3) := by decide +kernel
theorem dX9_one_79 : decode cX9_one 79 = .ok (.aload_n 0, 1) := by decide +kernel
theorem dX9_one_80 : decode cX9_one 80 = .ok (.invokevirtual 206, 3) := by decide +kernel
theorem dX9_one_83 : decode cX9_one 83 = .ok (.istore_n 2, 1) := by decide +kernel
theorem dX9_one_84 : decode cX9_one 84 = .ok (.iload_n 1, 1) := by decide +kernel
theorem dX9_one_85 : decode cX9_one 85 = .ok (.bipush 40, 2) := by decide +kernel
theorem dX9_one_87 : decode cX9_one 87 = .ok (.if_icmp .ne 17, 3) := by decide +kernel
theorem dX9_one_90 : decode cX9_one 90 = .ok (.aload_n 0, 1) := by decide +kernel
theorem dX9_one_91 : decode cX9_one 91 = .ok (.bipush 41, 2) := by decide +kernel
theorem dX9_one_93 : decode cX9_one 93 = .ok (.invokevirtual 194, 3) := by decide +kernel
theorem dX9_one_96 : decode cX9_one 96 = .ok (.ifCond .ne 8, 3) := by decide +kernel
theorem dX9_one_99 : decode cX9_one 99 = .ok (.aload_n 0, 1) := by decide +kernel
theorem dX9_one_100 : decode cX9_one 100 = .ok (.invokevirtual 212, 3) := by decide +kernel
theorem dX9_one_103 : decode cX9_one 103 = .ok (.ireturn, 1) := by decide +kernel
theorem dX9_one_104 : decode cX9_one 104 = .ok (.aload_n 0, 1) := by decide +kernel
theorem dX9_one_105 : decode cX9_one 105 = .ok (.dup, 1) := by decide +kernel
theorem dX9_one_106 : decode cX9_one 106 = .ok (.getfield 209, 3) := by decide +kernel
theorem dX9_one_109 : decode cX9_one 109 = .ok (.iconst 1, 1) := by decide +kernel
theorem dX9_one_110 : decode cX9_one 110 = .ok (.isub, 1) := by decide +kernel
theorem dX9_one_111 : decode cX9_one 111 = .ok (.putfield 209, 3) := by decide +kernel
theorem dX9_one_114 : decode cX9_one 114 = .ok (.iload_n 1, 1) := by decide +kernel
theorem dX9_one_115 : decode cX9_one 115 = .ok (.bipush 40, 2) := by decide +kernel
theorem dX9_one_117 : decode cX9_one 117 = .ok (.if_icmp .ne 7, 3) := by decide +kernel
theorem dX9_one_120 : decode cX9_one 120 = .ok (.iload_n 2, 1) := by decide +kernel
theorem dX9_one_121 : decode cX9_one 121 = .ok (.goto 23, 3) := by decide +kernel
theorem dX9_one_124 : decode cX9_one 124 = .ok (.iload_n 1, 1) := by decide +kernel
theorem dX9_one_125 : decode cX9_one 125 = .ok (.bipush 45, 2) := by decide +kernel
theorem dX9_one_127 : decode cX9_one 127 = .ok (.if_icmp .ne 8, 3) := by decide +kernel
theorem dX9_one_130 : decode cX9_one 130 = .ok (.iload_n 2, 1) := by decide +kernel
theorem dX9_one_131 : decode cX9_one 131 = .ok (.ineg, 1) := by decide +kernel
theorem dX9_one_132 : decode cX9_one 132 = .ok (.goto 12, 3) := by decide +kernel
theorem dX9_one_135 : decode cX9_one 135 = .ok (.iload_n 2, 1) := by decide +kernel
theorem dX9_one_136 : decode cX9_one 136 = .ok (.ifCond .ne 7, 3) := by decide +kernel
theorem dX9_one_139 : decode cX9_one 139 = .ok (.iconst 1, 1) := by decide +kernel
theorem dX9_one_140 : decode cX9_one 140 = .ok (.goto 4, 3) := by decide +kernel
theorem dX9_one_143 : decode cX9_one 143 = .ok (.iconst 0, 1) := by decide +kernel
theorem dX9_one_144 : decode cX9_one 144 = .ok (.ireturn, 1) := by decide +kernel
theorem dX9_one_145 : decode cX9_one 145 = .ok (.iload_n 1, 1) := by decide +kernel
theorem dX9_one_146 : decode cX9_one 146 = .ok (.invokestatic 218, 3) := by decide +kernel
theorem dX9_one_149 : decode cX9_one 149 = .ok (.istore_n 2, 1) := by decide +kernel
theorem dX9_one_150 : decode cX9_one 150 = .ok (.iload_n 2, 1) := by decide +kernel
theorem dX9_one_151 : decode cX9_one 151 = .ok (.ifCond .lt 20, 3) := by decide +kernel
theorem dX9_one_154 : decode cX9_one 154 = .ok (.aload_n 0, 1) := by decide +kernel
theorem dX9_one_155 : decode cX9_one 155 = .ok (.dup, 1) := by decide +kernel
theorem dX9_one_156 : decode cX9_one 156 = .ok (.getfield 176, 3) := by decide +kernel
theorem dX9_one_159 : decode cX9_one 159 = .ok (.iconst 1, 1) := by decide +kernel
theorem dX9_one_160 : decode cX9_one 160 = .ok (.iadd, 1) := by decide +kernel
theorem dX9_one_161 : decode cX9_one 161 = .ok (.putfield 176, 3) := by decide +kernel
theorem dX9_one_164 : decode cX9_one 164 = .ok (.aload_n 0, 1) := by decide +kernel
theorem dX9_one_165 : decode cX9_one 165 = .ok (.getfield 46, 3) := by decide +kernel
theorem dX9_one_168 : decode cX9_one 168 = .ok (.iload_n 2, 1) := by decide +kernel
theorem dX9_one_169 : decode cX9_one 169 = .ok (.iaload, 1) := by decide +kernel
theorem dX9_one_170 : decode cX9_one 170 = .ok (.ireturn, 1) := by decide +kernel
theorem dX9_one_171 : decode cX9_one 171 = .ok (.iconst 0, 1) := by decide +kernel
theorem dX9_one_172 : decode cX9_one 172 = .ok (.istore_n 3, 1) := by decide +kernel
theorem dX9_one_173 : decode cX9_one 173 = .ok (.iconst 0, 1) := by decide +kernel
theorem dX9_one_174 : decode cX9_one 174 = .ok (.istore 4, 2) := by decide +kernel
theorem dX9_one_176 : decode cX9_one 176 = .ok (.iload 4, 2) := by decide +kernel
theorem dX9_one_178 : decode cX9_one 178 = .ok (.iconst 4, 1) := by decide +kernel
theorem dX9_one_179 : decode cX9_one 179 = .ok (.if_icmp .ge 50, 3) := by decide +kernel
theorem dX9_one_182 : decode cX9_one 182 = .ok (.aload_n 0, 1) := by decide +kernel
theorem dX9_one_183 : decode cX9_one 183 = .ok (.invokevirtual 188, 3) := by decide +kernel
theorem dX9_one_186 : decode cX9_one 186 = .ok (.bipush 48, 2) := by decide +kernel
theorem dX9_one_188 : decode cX9_one 188 = .ok (.if_icmp .lt 41, 3) := by decide +kernel
theorem dX9_one_191 : decode cX9_one 191 = .ok (.aload_n 0, 1) := by decide +kernel
theorem dX9_one_192 : decode cX9_one 192 = .ok (.invokevirtual 188, 3) := by decide +kernel
theorem dX9_one_195 : decode cX9_one 195 = .ok (.bipush 57, 2) := by decide +kernel
theorem dX9_one_197 : decode cX9_one 197 = .ok (.if_icmp .gt 32, 3) := by decide +kernel
theorem dX9_one_200 : decode cX9_one 200 = .ok (.bipush 10, 2) := by decide +kernel
theorem dX9_one_202 : decode cX9_one 202 = .ok (.iload_n 3, 1) := by decide +kernel
theorem dX9_one_203 : decode cX9_one 203 = .ok (.imul, 1) := by decide +kernel
theorem dX9_one_204 : decode cX9_one 204 = .ok (.aload_n 0, 1) := by decide +kernel
theorem dX9_one_205 : decode cX9_one 205 = .ok (.invokevirtual 188, 3) := by decide +kernel
theorem dX9_one_208 : decode cX9_one 208 = .ok (.iadd, 1) := by decide +kernel
theorem dX9_one_209 : decode cX9_one 209 = .ok (.bipush 48, 2) := by decide +kernel
theorem dX9_one_211 : decode cX9_one 211 = .ok (.isub, 1) := by decide +kernel
theorem dX9_one_212 : decode cX9_one 212 = .ok (.istore_n 3, 1) := by decide +kernel
theorem dX9_one_213 : decode cX9_one 213 = .ok (.iinc 4 1, 3) := by decide +kernel
theorem dX9_one_216 : decode cX9_one 216 = .ok (.aload_n 0, 1) := by decide +kernel
theorem dX9_one_217 : decode cX9_one 217 = .ok (.dup, 1) := by decide +kernel
theorem dX9_one_218 : decode cX9_one 218 = .ok (.getfield 176, 3) := by decide +kernel
theorem dX9_one_221 : decode cX9_one 221 = .ok (.iconst 1, 1) := by decide +kernel
theorem dX9_one_222 : decode cX9_one 222 = .ok (.iadd, 1) := by decide +kernel
theorem dX9_one_223 : decode cX9_one 223 = .ok (.putfield 176, 3) := by decide +kernel
theorem dX9_one_226 : decode cX9_one 226 = .ok (.goto (-50), 3) := by decide +kernel
theorem dX9_one_229 : decode cX9_one 229 = .ok (.iload 4, 2) := by decide +kernel
theorem dX9_one_231 : decode cX9_one 231 = .ok (.ifCond .ne 10, 3) := by decide +kernel
theorem dX9_one_234 : decode cX9_one 234 = .ok (.aload_n 0, 1) := by decide +kernel
theorem dX9_one_235 : decode cX9_one 235 = .ok (.invokevirtual 212, 3) := by decide +kernel
theorem dX9_one_238 : decode cX9_one 238 = .ok (.goto 4, 3) := by decide +kernel
theorem dX9_one_241 : decode cX9_one 241 = .ok (.iload_n 3, 1) := by decide +kernel
theorem dX9_one_242 : decode cX9_one 242 = .ok (.ireturn, 1) := by decide +kernel
theorem dX9_workOut_0 : decode cX9_workOut 0 = .ok (.aload_n 0, 1) := by decide +kernel
theorem dX9_workOut_1 : decode cX9_workOut 1 = .ok (.iload_n 1, 1) := by decide +kernel
theorem dX9_workOut_2 : decode cX9_workOut 2 = .ok (.putfield 182, 3) := by decide +kernel
theorem dX9_workOut_5 : decode cX9_workOut 5 = .ok (.aload_n 0, 1) := by decide +kernel
theorem dX9_workOut_6 : decode cX9_workOut 6 = .ok (.iconst 0, 1) := by decide +kernel
theorem dX9_workOut_7 : decode cX9_workOut 7 = .ok (.putfield 176, 3) := by decide +kernel
theorem dX9_workOut_10 : decode cX9_workOut 10 = .ok (.aload_n 0, 1) := by decide +kernel
theorem dX9_workOut_11 : decode cX9_workOut 11 = .ok (.iload_n 2, 1) := by decide +kernel
theorem dX9_workOut_12 : decode cX9_workOut 12 = .ok (.putfield 179, 3) := by decide +kernel
theorem dX9_workOut_15 : decode cX9_workOut 15 = .ok (.aload_n 0, 1) := by decide +kernel
theorem dX9_workOut_16 : decode cX9_workOut 16 = .ok (.iconst (-1), 1) := by decide +kernel
theorem dX9_workOut_17 : decode cX9_workOut 17 = .ok (.putfield 185, 3) := by decide +kernel
theorem dX9_workOut_20 : decode cX9_workOut 20 = .ok (.aload_n 0, 1) := by decide +kernel
theorem dX9_workOut_21 : decode cX9_workOut 21 = .ok (.iconst 0, 1) := by decide +kernel
theorem dX9_workOut_22 : decode cX9_workOut 22 = .ok (.putfield 209, 3) := by decide +kernel
theorem dX9_workOut_25 : decode cX9_workOut 25 = .ok (.iconst 0, 1) := by decide +kernel
theorem dX9_workOut_26 : decode cX9_workOut 26 = .ok (.istore_n 3, 1) := by decide +kernel
theorem dX9_workOut_27 : decode cX9_workOut 27 = .ok (.iconst 0, 1) := by decide +kernel
theorem dX9_workOut_28 : decode cX9_workOut 28 = .ok (.istore 4, 2) := by decide +kernel
theorem dX9_workOut_30 : decode cX9_workOut 30 = .ok (.iconst 1, 1) := by decide +kernel
theorem dX9_workOut_31 : decode cX9_workOut 31 = .ok (.istore 5, 2) := by decide +kernel
theorem dX9_workOut_33 : decode cX9_workOut 33 = .ok (.iload 5, 2) := by decide +kernel
theorem dX9_workOut_35 : decode cX9_workOut 35 = .ok (.ifCond .eq 72, 3) := by decide +kernel
theorem dX9_workOut_38 : decode cX9_workOut 38 = .ok (.aload_n 0, 1) := by decide +kernel
theorem dX9_workOut_39 : decode cX9_workOut 39 = .ok (.invokevirtual 215, 3) := by decide +kernel
theorem dX9_workOut_42 : decode cX9_workOut 42 = .ok (.istore 6, 2) := by decide +kernel
theorem dX9_workOut_44 : decode cX9_workOut 44 = .ok (.iconst 1, 1) := by decide +kernel
theorem dX9_workOut_45 : decode cX9_workOut 45 = .ok (.istore 7, 2) := by decide +kernel
theorem dX9_workOut_47 : decode cX9_workOut 47 = .ok (.aload_n 0, 1) := by decide +kernel
theorem dX9_workOut_48 : decode cX9_workOut 48 = .ok (.bipush 63, 2) := by decide +kernel
theorem dX9_workOut_50 : decode cX9_workOut 50 = .ok (.invokevirtual 194, 3) := by decide +kernel
theorem dX9_workOut_53 : decode cX9_workOut 53 = .ok (.ifCond .eq 21, 3) := by decide +kernel
theorem dX9_workOut_56 : decode cX9_workOut 56 = .ok (.iload 6, 2) := by decide +kernel
theorem dX9_workOut_58 : decode cX9_workOut 58 = .ok (.ifCond .eq 7, 3) := by decide +kernel
theorem dX9_workOut_61 : decode cX9_workOut 61 = .ok (.iconst 1, 1) := by decide +kernel
theorem dX9_workOut_62 : decode cX9_workOut 62 = .ok (.goto 4, 3) := by decide +kernel
theorem dX9_workOut_65 : decode cX9_workOut 65 = .ok (.iconst 0, 1) := by decide +kernel
theorem dX9_workOut_66 : decode cX9_workOut 66 = .ok (.istore 7, 2) := by decide +kernel
theorem dX9_workOut_68 : decode cX9_workOut 68 = .ok (.aload_n 0, 1) := by decide +kernel
theorem dX9_workOut_69 : decode cX9_workOut 69 = .ok (.invokevirtual 215, 3) := by decide +kernel
theorem dX9_workOut_72 : decode cX9_workOut 72 = .ok (.istore 6, 2) := by decide +kernel
theorem dX9_workOut_74 : decode cX9_workOut 74 = .ok (.aload_n 0, 1) := by decide +kernel
theorem dX9_workOut_75 : decode cX9_workOut 75 = .ok (.getfield 185, 3) := by decide +kernel
theorem dX9_workOut_78 : decode cX9_workOut 78 = .ok (.ifCond .ge 18, 3) := by decide +kernel
theorem dX9_workOut_81 : decode cX9_workOut 81 = .ok (.iload 7, 2) := by decide +kernel
theorem dX9_workOut_83 : decode cX9_workOut 83 = .ok (.ifCond .eq 13, 3) := by decide +kernel
theorem dX9_workOut_86 : decode cX9_workOut 86 = .ok (.iload_n 3, 1) := by decide +kernel
theorem dX9_workOut_87 : decode cX9_workOut 87 = .ok (.ifCond .ne 9, 3) := by decide +kernel
theorem dX9_workOut_90 : decode cX9_workOut 90 = .ok (.iconst 1, 1) := by decide +kernel
theorem dX9_workOut_91 : decode cX9_workOut 91 = .ok (.istore_n 3, 1) := by decide +kernel
theorem dX9_workOut_92 : decode cX9_workOut 92 = .ok (.iload 6, 2) := by decide +kernel
theorem dX9_workOut_94 : decode cX9_workOut 94 = .ok (.istore 4, 2) := by decide +kernel
theorem dX9_workOut_96 : decode cX9_workOut 96 = .ok (.aload_n 0, 1) := by decide +kernel
theorem dX9_workOut_97 : decode cX9_workOut 97 = .ok (.bipush 59, 2) := by decide +kernel
theorem dX9_workOut_99 : decode cX9_workOut 99 = .ok (.invokevirtual 194, 3) := by decide +kernel
theorem dX9_workOut_102 : decode cX9_workOut 102 = .ok (.istore 5, 2) := by decide +kernel
theorem dX9_workOut_104 : decode cX9_workOut 104 = .ok (.goto (-71), 3) := by decide +kernel
theorem dX9_workOut_107 : decode cX9_workOut 107 = .ok (.aload_n 0, 1) := by decide +kernel
theorem dX9_workOut_108 : decode cX9_workOut 108 = .ok (.getfield 185, 3) := by decide +kernel
theorem dX9_workOut_111 : decode cX9_workOut 111 = .ok (.ifCond .ge 19, 3) := by decide +kernel
theorem dX9_workOut_114 : decode cX9_workOut 114 = .ok (.aload_n 0, 1) := by decide +kernel
theorem dX9_workOut_115 : decode cX9_workOut 115 = .ok (.getfield 176, 3) := by decide +kernel
theorem dX9_workOut_118 : decode cX9_workOut 118 = .ok (.aload_n 0, 1) := by decide +kernel
theorem dX9_workOut_119 : decode cX9_workOut 119 = .ok (.getfield 179, 3) := by decide +kernel
theorem dX9_workOut_122 : decode cX9_workOut 122 = .ok (.if_icmp .ge 8, 3) := by decide +kernel
theorem dX9_workOut_125 : decode cX9_workOut 125 = .ok (.aload_n 0, 1) := by decide +kernel
theorem dX9_workOut_126 : decode cX9_workOut 126 = .ok (.invokevirtual 212, 3) := by decide +kernel
theorem dX9_workOut_129 : decode cX9_workOut 129 = .ok (.ireturn, 1) := by decide +kernel
theorem dX9_workOut_130 : decode cX9_workOut 130 = .ok (.iload 4, 2) := by decide +kernel
theorem dX9_workOut_132 : decode cX9_workOut 132 = .ok (.ireturn, 1) := by decide +kernel
theorem dX9_law_0 : decode cX9_law 0 = .ok (.aload_n 0, 1) := by decide +kernel
theorem dX9_law_1 : decode cX9_law 1 = .ok (.iconst (-1), 1) := by decide +kernel
theorem dX9_law_2 : decode cX9_law 2 = .ok (.aload_n 0, 1) := by decide +kernel
theorem dX9_law_3 : decode cX9_law 3 = .ok (.getfield 173, 3) := by decide +kernel
theorem dX9_law_6 : decode cX9_law 6 = .ok (.invokevirtual 222, 3) := by decide +kernel
theorem dX9_law_9 : decode cX9_law 9 = .ok (.istore_n 1, 1) := by decide +kernel
theorem dX9_law_10 : decode cX9_law 10 = .ok (.aload_n 0, 1) := by decide +kernel
theorem dX9_law_11 : decode cX9_law 11 = .ok (.getfield 173, 3) := by decide +kernel
theorem dX9_law_14 : decode cX9_law 14 = .ok (.istore_n 2, 1) := by decide +kernel
theorem dX9_law_15 : decode cX9_law 15 = .ok (.aload_n 0, 1) := by decide +kernel
theorem dX9_law_16 : decode cX9_law 16 = .ok (.iconst 0, 1) := by decide +kernel
theorem dX9_law_17 : decode cX9_law 17 = .ok (.putfield 173, 3) := by decide +kernel
theorem dX9_law_20 : decode cX9_law 20 = .ok (.aload_n 0, 1) := by decide +kernel
theorem dX9_law_21 : decode cX9_law 21 = .ok (.getfield 185, 3) := by decide +kernel
theorem dX9_law_24 : decode cX9_law 24 = .ok (.ifCond .lt 11, 3) := by decide +kernel
theorem dX9_law_27 : decode cX9_law 27 = .ok (.bipush (-100), 2) := by decide +kernel
theorem dX9_law_29 : decode cX9_law 29 = .ok (.aload_n 0, 1) := by decide +kernel
theorem dX9_law_30 : decode cX9_law 30 = .ok (.getfield 185, 3) := by decide +kernel
theorem dX9_law_33 : decode cX9_law 33 = .ok (.isub, 1) := by decide +kernel
theorem dX9_law_34 : decode cX9_law 34 = .ok (.ireturn, 1) := by decide +kernel
theorem dX9_law_35 : decode cX9_law 35 = .ok (.iconst 0, 1) := by decide +kernel
theorem dX9_law_36 : decode cX9_law 36 = .ok (.istore_n 3, 1) := by decide +kernel
theorem dX9_law_37 : decode cX9_law 37 = .ok (.iload_n 3, 1) := by decide +kernel
theorem dX9_law_38 : decode cX9_law 38 = .ok (.iload_n 2, 1) := by decide +kernel
theorem dX9_law_39 : decode cX9_law 39 = .ok (.if_icmp .ge 21, 3) := by decide +kernel
theorem dX9_law_42 : decode cX9_law 42 = .ok (.aload_n 0, 1) := by decide +kernel
theorem dX9_law_43 : decode cX9_law 43 = .ok (.getfield 43, 3) := by decide +kernel
theorem dX9_law_46 : decode cX9_law 46 = .ok (.iload_n 3, 1) := by decide +kernel
theorem dX9_law_47 : decode cX9_law 47 = .ok (.aload_n 0, 1) := by decide +kernel
theorem dX9_law_48 : decode cX9_law 48 = .ok (.getfield 40, 3) := by decide +kernel
theorem dX9_law_51 : decode cX9_law 51 = .ok (.iload_n 3, 1) := by decide +kernel
theorem dX9_law_52 : decode cX9_law 52 = .ok (.iaload, 1) := by decide +kernel
theorem dX9_law_53 : decode cX9_law 53 = .ok (.iastore, 1) := by decide +kernel
theorem dX9_law_54 : decode cX9_law 54 = .ok (.iinc 3 1, 3) := by decide +kernel
theorem dX9_law_57 : decode cX9_law 57 = .ok (.goto (-20), 3) := by decide +kernel
theorem dX9_law_60 : decode cX9_law 60 = .ok (.aload_n 0, 1) := by decide +kernel
theorem dX9_law_61 : decode cX9_law 61 = .ok (.iload_n 2, 1) := by decide +kernel
theorem dX9_law_62 : decode cX9_law 62 = .ok (.putfield 101, 3) := by decide +kernel
theorem dX9_law_65 : decode cX9_law 65 = .ok (.iconst 1, 1) := by decide +kernel
theorem dX9_law_66 : decode cX9_law 66 = .ok (.ireturn, 1) := by decide +kernel
theorem dX9_strengthAt_0 : decode cX9_strengthAt 0 = .ok (.aload_n 0, 1) := by decide +kernel
theorem dX9_strengthAt_1 : decode cX9_strengthAt 1 = .ok (.getfield 37, 3) := by decide +kernel
theorem dX9_strengthAt_4 : decode cX9_strengthAt 4 = .ok (.iload_n 2, 1) := by decide +kernel
theorem dX9_strengthAt_5 : decode cX9_strengthAt 5 = .ok (.iaload, 1) := by decide +kernel
theorem dX9_strengthAt_6 : decode cX9_strengthAt 6 = .ok (.istore 6, 2) := by decide +kernel
theorem dX9_strengthAt_8 : decode cX9_strengthAt 8 = .ok (.aload_n 1, 1) := by decide +kernel
theorem dX9_strengthAt_9 : decode cX9_strengthAt 9 = .ok (.iconst 2, 1) := by decide +kernel
theorem dX9_strengthAt_10 : decode cX9_strengthAt 10 = .ok (.iload_n 3, 1) := by decide +kernel
theorem dX9_strengthAt_11 : decode cX9_strengthAt 11 = .ok (.imul, 1) := by decide +kernel
theorem dX9_strengthAt_12 : decode cX9_strengthAt 12 = .ok (.iload_n 3, 1) := by decide +kernel
theorem dX9_strengthAt_13 : decode cX9_strengthAt 13 = .ok (.iload_n 2, 1) := by decide +kernel
theorem dX9_strengthAt_14 : decode cX9_strengthAt 14 = .ok (.if_icmp .ne 7, 3) := by decide +kernel
theorem dX9_strengthAt_17 : decode cX9_strengthAt 17 = .ok (.iconst 0, 1) := by decide +kernel
theorem dX9_strengthAt_18 : decode cX9_strengthAt 18 = .ok (.goto 4, 3) := by decide +kernel
theorem dX9_strengthAt_21 : decode cX9_strengthAt 21 = .ok (.iconst 1, 1) := by decide +kernel
theorem dX9_strengthAt_22 : decode cX9_strengthAt 22 = .ok (.iadd, 1) := by decide +kernel
theorem dX9_strengthAt_23 : decode cX9_strengthAt 23 = .ok (.iaload, 1) := by decide +kernel
theorem dX9_strengthAt_24 : decode cX9_strengthAt 24 = .ok (.istore 7, 2) := by decide +kernel
theorem dX9_strengthAt_26 : decode cX9_strengthAt 26 = .ok (.aload_n 0, 1) := by decide +kernel
theorem dX9_strengthAt_27 : decode cX9_strengthAt 27 = .ok (.getfield 25, 3) := by decide +kernel
theorem dX9_strengthAt_30 : decode cX9_strengthAt 30 = .ok (.bipush 24, 2) := by decide +kernel
theorem dX9_strengthAt_32 : decode cX9_strengthAt 32 = .ok (.iload 6, 2) := by decide +kernel
theorem dX9_strengthAt_34 : decode cX9_strengthAt 34 = .ok (.imul, 1) := by decide +kernel
theorem dX9_strengthAt_35 : decode cX9_strengthAt 35 = .ok (.iload 5, 2) := by decide +kernel
theorem dX9_strengthAt_37 : decode cX9_strengthAt 37 = .ok (.iadd, 1) := by decide +kernel
theorem dX9_strengthAt_38 : decode cX9_strengthAt 38 = .ok (.iaload, 1) := by decide +kernel
theorem dX9_strengthAt_39 : decode cX9_strengthAt 39 = .ok (.iconst 1, 1) := by decide +kernel
theorem dX9_strengthAt_40 : decode cX9_strengthAt 40 = .ok (.if_icmp .ne 7, 3) := by decide +kernel
theorem dX9_strengthAt_43 : decode cX9_strengthAt 43 = .ok (.iconst 1, 1) := by decide +kernel
theorem dX9_strengthAt_44 : decode cX9_strengthAt 44 = .ok (.goto 4, 3) := by decide +kernel
theorem dX9_strengthAt_47 : decode cX9_strengthAt 47 = .ok (.iconst 0, 1) := by decide +kernel
theorem dX9_strengthAt_48 : decode cX9_strengthAt 48 = .ok (.istore 8, 2) := by decide +kernel
theorem dX9_strengthAt_50 : decode cX9_strengthAt 50 = .ok (.iconst 2, 1) := by decide +kernel
theorem dX9_strengthAt_51 : decode cX9_strengthAt 51 = .ok (.aload_n 0, 1) := by decide +kernel
theorem dX9_strengthAt_52 : decode cX9_strengthAt 52 = .ok (.getfield 9, 3) := by decide +kernel
theorem dX9_strengthAt_55 : decode cX9_strengthAt 55 = .ok (.bipush 8, 2) := by decide +kernel
theorem dX9_strengthAt_57 : decode cX9_strengthAt 57 = .ok (.iload 6, 2) := by decide +kernel
theorem dX9_strengthAt_59 : decode cX9_strengthAt 59 = .ok (.iadd, 1) := by decide +kernel
theorem dX9_strengthAt_60 : decode cX9_strengthAt 60 = .ok (.iaload, 1) := by decide +kernel
theorem dX9_strengthAt_61 : decode cX9_strengthAt 61 = .ok (.imul, 1) := by decide +kernel
theorem dX9_strengthAt_62 : decode cX9_strengthAt 62 = .ok (.iload 7, 2) := by decide +kernel
theorem dX9_strengthAt_64 : decode cX9_strengthAt 64 = .ok (.iadd, 1) := by decide +kernel
theorem dX9_strengthAt_65 : decode cX9_strengthAt 65 = .ok (.istore 9, 2) := by decide +kernel
theorem dX9_strengthAt_67 : decode cX9_strengthAt 67 = .ok (.aload_n 0, 1) := by decide +kernel
theorem dX9_strengthAt_68 : decode cX9_strengthAt 68 = .ok (.getfield 101, 3) := by decide +kernel
theorem dX9_strengthAt_71 : decode cX9_strengthAt 71 = .ok (.ifCond .ge 19, 3) := by decide +kernel
theorem dX9_strengthAt_74 : decode cX9_strengthAt 74 = .ok (.iload 8, 2) := by decide +kernel
theorem dX9_strengthAt_76 : decode cX9_strengthAt 76 = .ok (.iconst 1, 1) := by decide +kernel
theorem dX9_strengthAt_77 : decode cX9_strengthAt 77 = .ok (.if_icmp .ne 10, 3) := by decide +kernel
theorem dX9_strengthAt_80 : decode cX9_strengthAt 80 = .ok (.iload 9, 2) := by decide +kernel
theorem dX9_strengthAt_82 : decode cX9_strengthAt 82 = .ok (.iconst 2, 1) := by decide +kernel
theorem dX9_strengthAt_83 : decode cX9_strengthAt 83 = .ok (.idiv, 1) := by decide +kernel
theorem dX9_strengthAt_84 : decode cX9_strengthAt 84 = .ok (.goto 5, 3) := by decide +kernel
theorem dX9_strengthAt_87 : decode cX9_strengthAt 87 = .ok (.iload 9, 2) := by decide +kernel
theorem dX9_strengthAt_89 : decode cX9_strengthAt 89 = .ok (.ireturn, 1) := by decide +kernel
theorem dX9_strengthAt_90 : decode cX9_strengthAt 90 = .ok (.aload_n 0, 1) := by decide +kernel
theorem dX9_strengthAt_91 : decode cX9_strengthAt 91 = .ok (.getfield 46, 3) := by decide +kernel
theorem dX9_strengthAt_94 : decode cX9_strengthAt 94 = .ok (.iconst 0, 1) := by decide +kernel
theorem dX9_strengthAt_95 : decode cX9_strengthAt 95 = .ok (.aload_n 0, 1) := by decide +kernel
theorem dX9_strengthAt_96 : decode cX9_strengthAt 96 = .ok (.getfield 9, 3) := by decide +kernel
theorem dX9_strengthAt_99 : decode cX9_strengthAt 99 = .ok (.iload 6, 2) := by decide +kernel
theorem dX9_strengthAt_101 : decode cX9_strengthAt 101 = .ok (.iaload, 1) := by decide +kernel
theorem dX9_strengthAt_102 : decode cX9_strengthAt 102 = .ok (.iastore, 1) := by decide +kernel
theorem dX9_strengthAt_103 : decode cX9_strengthAt 103 = .ok (.aload_n 0, 1) := by decide +kernel
theorem dX9_strengthAt_104 : decode cX9_strengthAt 104 = .ok (.getfield 46, 3) := by decide +kernel
theorem dX9_strengthAt_107 : decode cX9_strengthAt 107 = .ok (.iconst 1, 1) := by decide +kernel
theorem dX9_strengthAt_108 : decode cX9_strengthAt 108 = .ok (.aload_n 0, 1) := by decide +kernel
theorem dX9_strengthAt_109 : decode cX9_strengthAt 109 = .ok (.getfield 9, 3) := by decide +kernel
theorem dX9_strengthAt_112 : decode cX9_strengthAt 112 = .ok (.bipush 8, 2) := by decide +kernel
theorem dX9_strengthAt_114 : decode cX9_strengthAt 114 = .ok (.iload 6, 2) := by decide +kernel
theorem dX9_strengthAt_116 : decode cX9_strengthAt 116 = .ok (.iadd, 1) := by decide +kernel
theorem dX9_strengthAt_117 : decode cX9_strengthAt 117 = .ok (.iaload, 1) := by decide +kernel
theorem dX9_strengthAt_118 : decode cX9_strengthAt 118 = .ok (.iastore, 1) := by decide +kernel
theorem dX9_strengthAt_119 : decode cX9_strengthAt 119 = .ok (.aload_n 0, 1) := by decide +kernel
theorem dX9_strengthAt_120 : decode cX9_strengthAt 120 = .ok (.getfield 46, 3) := by decide +kernel
theorem dX9_strengthAt_123 : decode cX9_strengthAt 123 = .ok (.iconst 2, 1) := by decide +kernel
theorem dX9_strengthAt_124 : decode cX9_strengthAt 124 = .ok (.aload_n 0, 1) := by decide +kernel
theorem dX9_strengthAt_125 : decode cX9_strengthAt 125 = .ok (.getfield 9, 3) := by decide +kernel
theorem dX9_strengthAt_128 : decode cX9_strengthAt 128 = .ok (.bipush 16, 2) := by decide +kernel
theorem dX9_strengthAt_130 : decode cX9_strengthAt 130 = .ok (.iload 6, 2) := by decide +kernel
theorem dX9_strengthAt_132 : decode cX9_strengthAt 132 = .ok (.iadd, 1) := by decide +kernel
theorem dX9_strengthAt_133 : decode cX9_strengthAt 133 = .ok (.iaload, 1) := by decide +kernel
theorem dX9_strengthAt_134 : decode cX9_strengthAt 134 = .ok (.iastore, 1) := by decide +kernel
theorem dX9_strengthAt_135 : decode cX9_strengthAt 135 = .ok (.aload_n 0, 1) := by decide +kernel
theorem dX9_strengthAt_136 : decode cX9_strengthAt 136 = .ok (.getfield 46, 3) := by decide +kernel
theorem dX9_strengthAt_139 : decode cX9_strengthAt 139 = .ok (.iconst 3, 1) := by decide +kernel
theorem dX9_strengthAt_140 : decode cX9_strengthAt 140 = .ok (.iload 7, 2) := by decide +kernel
theorem dX9_strengthAt_142 : decode cX9_strengthAt 142 = .ok (.iastore, 1) := by decide +kernel
theorem dX9_strengthAt_143 : decode cX9_strengthAt 143 = .ok (.aload_n 0, 1) := by decide +kernel
theorem dX9_strengthAt_144 : decode cX9_strengthAt 144 = .ok (.getfield 46, 3) := by decide +kernel
theorem dX9_strengthAt_147 : decode cX9_strengthAt 147 = .ok (.iconst 4, 1) := by decide +kernel
theorem dX9_strengthAt_148 : decode cX9_strengthAt 148 = .ok (.aload_n 1, 1) := by decide +kernel
theorem dX9_strengthAt_149 : decode cX9_strengthAt 149 = .ok (.iconst 2, 1) := by decide +kernel
theorem dX9_strengthAt_150 : decode cX9_strengthAt 150 = .ok (.iload_n 3, 1) := by decide +kernel
theorem dX9_strengthAt_151 : decode cX9_strengthAt 151 = .ok (.imul, 1) := by decide +kernel
theorem dX9_strengthAt_152 : decode cX9_strengthAt 152 = .ok (.iload_n 3, 1) := by decide +kernel
theorem dX9_strengthAt_153 : decode cX9_strengthAt 153 = .ok (.iload_n 2, 1) := by decide +kernel
theorem dX9_strengthAt_154 : decode cX9_strengthAt 154 = .ok (.if_icmp .ne 7, 3) := by decide +kernel
theorem dX9_strengthAt_157 : decode cX9_strengthAt 157 = .ok (.iconst 1, 1) := by decide +kernel
theorem dX9_strengthAt_158 : decode cX9_strengthAt 158 = .ok (.goto 4, 3) := by decide +kernel
theorem dX9_strengthAt_161 : decode cX9_strengthAt 161 = .ok (.iconst 0, 1) := by decide +kernel
theorem dX9_strengthAt_162 : decode cX9_strengthAt 162 = .ok (.iadd, 1) := by decide +kernel
theorem dX9_strengthAt_163 : decode cX9_strengthAt 163 = .ok (.iaload, 1) := by decide +kernel
theorem dX9_strengthAt_164 : decode cX9_strengthAt 164 = .ok (.iastore, 1) := by decide +kernel
theorem dX9_strengthAt_165 : decode cX9_strengthAt 165 = .ok (.aload_n 0, 1) := by decide +kernel
theorem dX9_strengthAt_166 : decode cX9_strengthAt 166 = .ok (.getfield 46, 3) := by decide +kernel
theorem dX9_strengthAt_169 : decode cX9_strengthAt 169 = .ok (.iconst 5, 1) := by decide +kernel
theorem dX9_strengthAt_170 : decode cX9_strengthAt 170 = .ok (.iload 8, 2) := by decide +kernel
theorem dX9_strengthAt_172 : decode cX9_strengthAt 172 = .ok (.iastore, 1) := by decide +kernel
theorem dX9_strengthAt_173 : decode cX9_strengthAt 173 = .ok (.aload_n 0, 1) := by decide +kernel
theorem dX9_strengthAt_174 : decode cX9_strengthAt 174 = .ok (.getfield 46, 3) := by decide +kernel
theorem dX9_strengthAt_177 : decode cX9_strengthAt 177 = .ok (.bipush 6, 2) := by decide +kernel
theorem dX9_strengthAt_179 : decode cX9_strengthAt 179 = .ok (.aload_n 0, 1) := by decide +kernel
theorem dX9_strengthAt_180 : decode cX9_strengthAt 180 = .ok (.iload_n 2, 1) := by decide +kernel
theorem dX9_strengthAt_181 : decode cX9_strengthAt 181 = .ok (.invokevirtual 168, 3) := by decide +kernel
theorem dX9_strengthAt_184 : decode cX9_strengthAt 184 = .ok (.ifCond .eq 17, 3) := by decide +kernel
theorem dX9_strengthAt_187 : decode cX9_strengthAt 187 = .ok (.aload_n 0, 1) := by decide +kernel
theorem dX9_strengthAt_188 : decode cX9_strengthAt 188 = .ok (.iload_n 2, 1) := by decide +kernel
theorem dX9_strengthAt_189 : decode cX9_strengthAt 189 = .ok (.iconst 1, 1) := by decide +kernel
theorem dX9_strengthAt_190 : decode cX9_strengthAt 190 = .ok (.isub, 1) := by decide +kernel
theorem dX9_strengthAt_191 : decode cX9_strengthAt 191 = .ok (.invokevirtual 168, 3) := by decide +kernel
theorem dX9_strengthAt_194 : decode cX9_strengthAt 194 = .ok (.ifCond .eq 7, 3) := by decide +kernel
theorem dX9_strengthAt_197 : decode cX9_strengthAt 197 = .ok (.iconst 1, 1) := by decide +kernel
theorem dX9_strengthAt_198 : decode cX9_strengthAt 198 = .ok (.goto 4, 3) := by decide +kernel
theorem dX9_strengthAt_201 : decode cX9_strengthAt 201 = .ok (.iconst 0, 1) := by decide +kernel
theorem dX9_strengthAt_202 : decode cX9_strengthAt 202 = .ok (.iastore, 1) := by decide +kernel
theorem dX9_strengthAt_203 : decode cX9_strengthAt 203 = .ok (.aload_n 0, 1) := by decide +kernel
theorem dX9_strengthAt_204 : decode cX9_strengthAt 204 = .ok (.getfield 46, 3) := by decide +kernel
theorem dX9_strengthAt_207 : decode cX9_strengthAt 207 = .ok (.bipush 7, 2) := by decide +kernel
theorem dX9_strengthAt_209 : decode cX9_strengthAt 209 = .ok (.iload 4, 2) := by decide +kernel
theorem dX9_strengthAt_211 : decode cX9_strengthAt 211 = .ok (.iastore, 1) := by decide +kernel
theorem dX9_strengthAt_212 : decode cX9_strengthAt 212 = .ok (.aload_n 0, 1) := by decide +kernel
theorem dX9_strengthAt_213 : decode cX9_strengthAt 213 = .ok (.getfield 46, 3) := by decide +kernel
theorem dX9_strengthAt_216 : decode cX9_strengthAt 216 = .ok (.bipush 8, 2) := by decide +kernel
theorem dX9_strengthAt_218 : decode cX9_strengthAt 218 = .ok (.iload 5, 2) := by decide +kernel
theorem dX9_strengthAt_220 : decode cX9_strengthAt 220 = .ok (.iastore, 1) := by decide +kernel
theorem dX9_strengthAt_221 : decode cX9_strengthAt 221 = .ok (.aload_n 0, 1) := by decide +kernel
theorem dX9_strengthAt_222 : decode cX9_strengthAt 222 = .ok (.iconst 0, 1) := by decide +kernel
theorem dX9_strengthAt_223 : decode cX9_strengthAt 223 = .ok (.aload_n 0, 1) := by decide +kernel
theorem dX9_strengthAt_224 : decode cX9_strengthAt 224 = .ok (.getfield 101, 3) := by decide +kernel
theorem dX9_strengthAt_227 : decode cX9_strengthAt 227 = .ok (.invokevirtual 222, 3) := by decide +kernel
theorem dX9_strengthAt_230 : decode cX9_strengthAt 230 = .ok (.istore 9, 2) := by decide +kernel
theorem dX9_strengthAt_232 : decode cX9_strengthAt 232 = .ok (.iload 9, 2) := by decide +kernel
theorem dX9_strengthAt_234 : decode cX9_strengthAt 234 = .ok (.ifCond .ge 7, 3) := by decide +kernel
theorem dX9_strengthAt_237 : decode cX9_strengthAt 237 = .ok (.iconst 0, 1) := by decide +kernel
theorem dX9_strengthAt_238 : decode cX9_strengthAt 238 = .ok (.goto 19, 3) := by decide +kernel
theorem dX9_strengthAt_241 : decode cX9_strengthAt 241 = .ok (.iload 9, 2) := by decide +kernel
theorem dX9_strengthAt_243 : decode cX9_strengthAt 243 = .ok (.sipush 999, 3) := by decide +kernel
theorem dX9_strengthAt_246 : decode cX9_strengthAt 246 = .ok (.if_icmp .le 9, 3) := by decide +kernel
theorem dX9_strengthAt_249 : decode cX9_strengthAt 249 = .ok (.sipush 999, 3) := by decide +kernel
theorem dX9_strengthAt_252 : decode cX9_strengthAt 252 = .ok (.goto 5, 3) := by decide +kernel
theorem dX9_strengthAt_255 : decode cX9_strengthAt 255 = .ok (.iload 9, 2) := by decide +kernel
theorem dX9_strengthAt_257 : decode cX9_strengthAt 257 = .ok (.ireturn, 1) := by decide +kernel
theorem dX9_strength_0 : decode cX9_strength 0 = .ok (.aload_n 0, 1) := by decide +kernel
theorem dX9_strength_1 : decode cX9_strength 1 = .ok (.iload_n 1, 1) := by decide +kernel
theorem dX9_strength_2 : decode cX9_strength 2 = .ok (.invokevirtual 146, 3) := by decide +kernel
theorem dX9_strength_5 : decode cX9_strength 5 = .ok (.ifCond .eq 62, 3) := by decide +kernel
theorem dX9_strength_8 : decode cX9_strength 8 = .ok (.aload_n 0, 1) := by decide +kernel
theorem dX9_strength_9 : decode cX9_strength 9 = .ok (.iload_n 2, 1) := by decide +kernel
theorem dX9_strength_10 : decode cX9_strength 10 = .ok (.invokevirtual 168, 3) := by decide +kernel
theorem dX9_strength_13 : decode cX9_strength 13 = .ok (.ifCond .eq 54, 3) := by decide +kernel
theorem dX9_strength_16 : decode cX9_strength 16 = .ok (.iload_n 2, 1) := by decide +kernel
theorem dX9_strength_17 : decode cX9_strength 17 = .ok (.iload_n 1, 1) := by decide +kernel
theorem dX9_strength_18 : decode cX9_strength 18 = .ok (.if_icmp .eq 10, 3) := by decide +kernel
theorem dX9_strength_21 : decode cX9_strength 21 = .ok (.iload_n 2, 1) := by decide +kernel
theorem dX9_strength_22 : decode cX9_strength 22 = .ok (.iload_n 1, 1) := by decide +kernel
theorem dX9_strength_23 : decode cX9_strength 23 = .ok (.iconst 1, 1) := by decide +kernel
theorem dX9_strength_24 : decode cX9_strength 24 = .ok (.isub, 1) := by decide +kernel
theorem dX9_strength_25 : decode cX9_strength 25 = .ok (.if_icmp .ne 42, 3) := by decide +kernel
theorem dX9_strength_28 : decode cX9_strength 28 = .ok (.iload_n 3, 1) := by decide +kernel
theorem dX9_strength_29 : decode cX9_strength 29 = .ok (.i2l, 1) := by decide +kernel
theorem dX9_strength_30 : decode cX9_strength 30 = .ok (.lconst 0, 1) := by decide +kernel
theorem dX9_strength_31 : decode cX9_strength 31 = .ok (.ldc2_w 153, 3) := by decide +kernel
theorem dX9_strength_34 : decode cX9_strength 34 = .ok (.invokestatic 114, 3) := by decide +kernel
theorem dX9_strength_37 : decode cX9_strength 37 = .ok (.ifCond .eq 30, 3) := by decide +kernel
theorem dX9_strength_40 : decode cX9_strength 40 = .ok (.aload_n 0, 1) := by decide +kernel
theorem dX9_strength_41 : decode cX9_strength 41 = .ok (.getfield 127, 3) := by decide +kernel
theorem dX9_strength_44 : decode cX9_strength 44 = .ok (.bipush 24, 2) := by decide +kernel
theorem dX9_strength_46 : decode cX9_strength 46 = .ok (.if_icmp .ge 21, 3) := by decide +kernel
theorem dX9_strength_49 : decode cX9_strength 49 = .ok (.aload_n 0, 1) := by decide +kernel
theorem dX9_strength_50 : decode cX9_strength 50 = .ok (.getfield 25, 3) := by decide +kernel
theorem dX9_strength_53 : decode cX9_strength 53 = .ok (.bipush 24, 2) := by decide +kernel
theorem dX9_strength_55 : decode cX9_strength 55 = .ok (.iload_n 1, 1) := by decide +kernel
theorem dX9_strength_56 : decode cX9_strength 56 = .ok (.imul, 1) := by decide +kernel
theorem dX9_strength_57 : decode cX9_strength 57 = .ok (.aload_n 0, 1) := by decide +kernel
theorem dX9_strength_58 : decode cX9_strength 58 = .ok (.getfield 127, 3) := by decide +kernel
theorem dX9_strength_61 : decode cX9_strength 61 = .ok (.iadd, 1) := by decide +kernel
theorem dX9_strength_62 : decode cX9_strength 62 = .ok (.iaload, 1) := by decide +kernel
theorem dX9_strength_63 : decode cX9_strength 63 = .ok (.iconst 2, 1) := by decide +kernel
theorem dX9_strength_64 : decode cX9_strength 64 = .ok (.if_icmp .lt 5, 3) := by decide +kernel
theorem dX9_strength_67 : decode cX9_strength 67 = .ok (.iconst (-1), 1) := by decide +kernel
theorem dX9_strength_68 : decode cX9_strength 68 = .ok (.ireturn, 1) := by decide +kernel
theorem dX9_strength_69 : decode cX9_strength 69 = .ok (.aload_n 0, 1) := by decide +kernel
theorem dX9_strength_70 : decode cX9_strength 70 = .ok (.aload_n 0, 1) := by decide +kernel
theorem dX9_strength_71 : decode cX9_strength 71 = .ok (.getfield 28, 3) := by decide +kernel
theorem dX9_strength_74 : decode cX9_strength 74 = .ok (.iload_n 1, 1) := by decide +kernel
theorem dX9_strength_75 : decode cX9_strength 75 = .ok (.iload_n 2, 1) := by decide +kernel
theorem dX9_strength_76 : decode cX9_strength 76 = .ok (.iload_n 3, 1) := by decide +kernel
theorem dX9_strength_77 : decode cX9_strength 77 = .ok (.aload_n 0, 1) := by decide +kernel
theorem dX9_strength_78 : decode cX9_strength 78 = .ok (.getfield 127, 3) := by decide +kernel
theorem dX9_strength_81 : decode cX9_strength 81 = .ok (.invokevirtual 225, 3) := by decide +kernel
theorem dX9_strength_84 : decode cX9_strength 84 = .ok (.ireturn, 1) := by decide +kernel
theorem dX9_coughs_0 : decode cX9_coughs 0 = .ok (.aload_n 0, 1) := by decide +kernel
theorem dX9_coughs_1 : decode cX9_coughs 1 = .ok (.aload_n 0, 1) := by decide +kernel
theorem dX9_coughs_2 : decode cX9_coughs 2 = .ok (.getfield 229, 3) := by decide +kernel
theorem dX9_coughs_5 : decode cX9_coughs 5 = .ok (.ldc 232, 2) := by decide +kernel
theorem dX9_coughs_7 : decode cX9_coughs 7 = .ok (.imul, 1) := by decide +kernel
theorem dX9_coughs_8 : decode cX9_coughs 8 = .ok (.sipush 12345, 3) := by decide +kernel
theorem dX9_coughs_11 : decode cX9_coughs 11 = .ok (.iadd, 1) := by decide +kernel
theorem dX9_coughs_12 : decode cX9_coughs 12 = .ok (.putfield 229, 3) := by decide +kernel
theorem dX9_coughs_15 : decode cX9_coughs 15 = .ok (.aload_n 0, 1) := by decide +kernel
theorem dX9_coughs_16 : decode cX9_coughs 16 = .ok (.getfield 229, 3) := by decide +kernel
theorem dX9_coughs_19 : decode cX9_coughs 19 = .ok (.bipush 8, 2) := by decide +kernel
theorem dX9_coughs_21 : decode cX9_coughs 21 = .ok (.iushr, 1) := by decide +kernel
theorem dX9_coughs_22 : decode cX9_coughs 22 = .ok (.bipush 100, 2) := by decide +kernel
theorem dX9_coughs_24 : decode cX9_coughs 24 = .ok (.irem, 1) := by decide +kernel
theorem dX9_coughs_25 : decode cX9_coughs 25 = .ok (.ireturn, 1) := by decide +kernel
theorem dX9_isThere_0 : decode cX9_isThere 0 = .ok (.aload_n 0, 1) := by decide +kernel
theorem dX9_isThere_1 : decode cX9_isThere 1 = .ok (.getfield 25, 3) := by decide +kernel
theorem dX9_isThere_4 : decode cX9_isThere 4 = .ok (.bipush 24, 2) := by decide +kernel
theorem dX9_isThere_6 : decode cX9_isThere 6 = .ok (.aload_n 0, 1) := by decide +kernel
theorem dX9_isThere_7 : decode cX9_isThere 7 = .ok (.getfield 37, 3) := by decide +kernel
theorem dX9_isThere_10 : decode cX9_isThere 10 = .ok (.iload_n 1, 1) := by decide +kernel
theorem dX9_isThere_11 : decode cX9_isThere 11 = .ok (.iaload, 1) := by decide +kernel
theorem dX9_isThere_12 : decode cX9_isThere 12 = .ok (.imul, 1) := by decide +kernel
theorem dX9_isThere_13 : decode cX9_isThere 13 = .ok (.iload_n 2, 1) := by decide +kernel
theorem dX9_isThere_14 : decode cX9_isThere 14 = .ok (.iadd, 1) := by decide +kernel
theorem dX9_isThere_15 : decode cX9_isThere 15 = .ok (.iaload, 1) := by decide +kernel
theorem dX9_isThere_16 : decode cX9_isThere 16 = .ok (.iconst 2, 1) := by decide +kernel
theorem dX9_isThere_17 : decode cX9_isThere 17 = .ok (.if_icmp .ge 7, 3) := by decide +kernel
theorem dX9_isThere_20 : decode cX9_isThere 20 = .ok (.iconst 1, 1) := by decide +kernel
theorem dX9_isThere_21 : decode cX9_isThere 21 = .ok (.goto 4, 3) := by decide +kernel
theorem dX9_isThere_24 : decode cX9_isThere 24 = .ok (.iconst 0, 1) := by decide +kernel
theorem dX9_isThere_25 : decode cX9_isThere 25 = .ok (.ireturn, 1) := by decide +kernel
theorem dX9_leaves_0 : decode cX9_leaves 0 = .ok (.aload_n 0, 1) := by decide +kernel
theorem dX9_leaves_1 : decode cX9_leaves 1 = .ok (.aload_n 0, 1) := by decide +kernel
theorem dX9_leaves_2 : decode cX9_leaves 2 = .ok (.getfield 233, 3) := by decide +kernel
theorem dX9_leaves_5 : decode cX9_leaves 5 = .ok (.ifCond .ne 9, 3) := by decide +kernel
theorem dX9_leaves_8 : decode cX9_leaves 8 = .ok (.aload_n 1, 1) := by decide +kernel
theorem dX9_leaves_9 : decode cX9_leaves 9 = .ok (.iload_n 2, 1) := by decide +kernel
theorem dX9_leaves_10 : decode cX9_leaves 10 = .ok (.iaload, 1) := by decide +kernel
theorem dX9_leaves_11 : decode cX9_leaves 11 = .ok (.ifCond .le 7, 3) := by decide +kernel
theorem dX9_leaves_14 : decode cX9_leaves 14 = .ok (.iconst 1, 1) := by decide +kernel
theorem dX9_leaves_15 : decode cX9_leaves 15 = .ok (.goto 4, 3) := by decide +kernel
theorem dX9_leaves_18 : decode cX9_leaves 18 = .ok (.iconst 0, 1) := by decide +kernel
theorem dX9_leaves_19 : decode cX9_leaves 19 = .ok (.putfield 233, 3) := by decide +kernel
theorem dX9_leaves_22 : decode cX9_leaves 22 = .ok (.aload_n 1, 1) := by decide +kernel
theorem dX9_leaves_23 : decode cX9_leaves 23 = .ok (.iload_n 2, 1) := by decide +kernel
theorem dX9_leaves_24 : decode cX9_leaves 24 = .ok (.iconst 0, 1) := by decide +kernel
theorem dX9_leaves_25 : decode cX9_leaves 25 = .ok (.iastore, 1) := by decide +kernel
theorem dX9_leaves_26 : decode cX9_leaves 26 = .ok (.return_, 1) := by decide +kernel
theorem dX9_takesFree_0 : decode cX9_takesFree 0 = .ok (.aload_n 1, 1) := by decide +kernel
theorem dX9_takesFree_1 : decode cX9_takesFree 1 = .ok (.iload_n 2, 1) := by decide +kernel
theorem dX9_takesFree_2 : decode cX9_takesFree 2 = .ok (.dup2, 1) := by decide +kernel
theorem dX9_takesFree_3 : decode cX9_takesFree 3 = .ok (.iaload, 1) := by decide +kernel
theorem dX9_takesFree_4 : decode cX9_takesFree 4 = .ok (.iconst 1, 1) := by decide +kernel
theorem dX9_takesFree_5 : decode cX9_takesFree 5 = .ok (.iadd, 1) := by decide +kernel
theorem dX9_takesFree_6 : decode cX9_takesFree 6 = .ok (.iastore, 1) := by decide +kernel
theorem dX9_takesFree_7 : decode cX9_takesFree 7 = .ok (.aload_n 0, 1) := by decide +kernel
theorem dX9_takesFree_8 : decode cX9_takesFree 8 = .ok (.iconst 1, 1) := by decide +kernel
theorem dX9_takesFree_9 : decode cX9_takesFree 9 = .ok (.putfield 233, 3) := by decide +kernel
theorem dX9_takesFree_12 : decode cX9_takesFree 12 = .ok (.return_, 1) := by decide +kernel
theorem dX9_pushes_0 : decode cX9_pushes 0 = .ok (.aload_n 0, 1) := by decide +kernel
theorem dX9_pushes_1 : decode cX9_pushes 1 = .ok (.aload_n 1, 1) := by decide +kernel
theorem dX9_pushes_2 : decode cX9_pushes 2 = .ok (.iload_n 2, 1) := by decide +kernel
theorem dX9_pushes_3 : decode cX9_pushes 3 = .ok (.iload_n 2, 1) := by decide +kernel
theorem dX9_pushes_4 : decode cX9_pushes 4 = .ok (.aload_n 0, 1) := by decide +kernel
theorem dX9_pushes_5 : decode cX9_pushes 5 = .ok (.invokevirtual 237, 3) := by decide +kernel
theorem dX9_pushes_8 : decode cX9_pushes 8 = .ok (.iload 4, 2) := by decide +kernel
theorem dX9_pushes_10 : decode cX9_pushes 10 = .ok (.invokevirtual 225, 3) := by decide +kernel
theorem dX9_pushes_13 : decode cX9_pushes 13 = .ok (.istore 5, 2) := by decide +kernel
theorem dX9_pushes_15 : decode cX9_pushes 15 = .ok (.aload_n 0, 1) := by decide +kernel
theorem dX9_pushes_16 : decode cX9_pushes 16 = .ok (.aload_n 1, 1) := by decide +kernel
theorem dX9_pushes_17 : decode cX9_pushes 17 = .ok (.iload_n 2, 1) := by decide +kernel
theorem dX9_pushes_18 : decode cX9_pushes 18 = .ok (.iconst 1, 1) := by decide +kernel
theorem dX9_pushes_19 : decode cX9_pushes 19 = .ok (.iadd, 1) := by decide +kernel
theorem dX9_pushes_20 : decode cX9_pushes 20 = .ok (.iload_n 2, 1) := by decide +kernel
theorem dX9_pushes_21 : decode cX9_pushes 21 = .ok (.aload_n 0, 1) := by decide +kernel
theorem dX9_pushes_22 : decode cX9_pushes 22 = .ok (.invokevirtual 237, 3) := by decide +kernel
theorem dX9_pushes_25 : decode cX9_pushes 25 = .ok (.iload 4, 2) := by decide +kernel
theorem dX9_pushes_27 : decode cX9_pushes 27 = .ok (.invokevirtual 225, 3) := by decide +kernel
theorem dX9_pushes_30 : decode cX9_pushes 30 = .ok (.istore 6, 2) := by decide +kernel
theorem dX9_pushes_32 : decode cX9_pushes 32 = .ok (.iload 5, 2) := by decide +kernel
theorem dX9_pushes_34 : decode cX9_pushes 34 = .ok (.iload 6, 2) := by decide +kernel
theorem dX9_pushes_36 : decode cX9_pushes 36 = .ok (.if_icmp .ne 4, 3) := by decide +kernel
theorem dX9_pushes_39 : decode cX9_pushes 39 = .ok (.return_, 1) := by decide +kernel
theorem dX9_pushes_40 : decode cX9_pushes 40 = .ok (.iload 5, 2) := by decide +kernel
theorem dX9_pushes_42 : decode cX9_pushes 42 = .ok (.iload 6, 2) := by decide +kernel
theorem dX9_pushes_44 : decode cX9_pushes 44 = .ok (.if_icmp .le 7, 3) := by decide +kernel
theorem dX9_pushes_47 : decode cX9_pushes 47 = .ok (.iconst 0, 1) := by decide +kernel
theorem dX9_pushes_48 : decode cX9_pushes 48 = .ok (.goto 4, 3) := by decide +kernel
theorem dX9_pushes_51 : decode cX9_pushes 51 = .ok (.iconst 1, 1) := by decide +kernel
theorem dX9_pushes_52 : decode cX9_pushes 52 = .ok (.istore 7, 2) := by decide +kernel
theorem dX9_pushes_54 : decode cX9_pushes 54 = .ok (.iload_n 2, 1) := by decide +kernel
theorem dX9_pushes_55 : decode cX9_pushes 55 = .ok (.iconst 1, 1) := by decide +kernel
theorem dX9_pushes_56 : decode cX9_pushes 56 = .ok (.iadd, 1) := by decide +kernel
theorem dX9_pushes_57 : decode cX9_pushes 57 = .ok (.iload 7, 2) := by decide +kernel
theorem dX9_pushes_59 : decode cX9_pushes 59 = .ok (.isub, 1) := by decide +kernel
theorem dX9_pushes_60 : decode cX9_pushes 60 = .ok (.istore 8, 2) := by decide +kernel
theorem dX9_pushes_62 : decode cX9_pushes 62 = .ok (.aload_n 1, 1) := by decide +kernel
theorem dX9_pushes_63 : decode cX9_pushes 63 = .ok (.iconst 2, 1) := by decide +kernel
theorem dX9_pushes_64 : decode cX9_pushes 64 = .ok (.iload_n 2, 1) := by decide +kernel
theorem dX9_pushes_65 : decode cX9_pushes 65 = .ok (.imul, 1) := by decide +kernel
theorem dX9_pushes_66 : decode cX9_pushes 66 = .ok (.iaload, 1) := by decide +kernel
theorem dX9_pushes_67 : decode cX9_pushes 67 = .ok (.aload_n 1, 1) := by decide +kernel
theorem dX9_pushes_68 : decode cX9_pushes 68 = .ok (.iconst 2, 1) := by decide +kernel
theorem dX9_pushes_69 : decode cX9_pushes 69 = .ok (.iload_n 2, 1) := by decide +kernel
theorem dX9_pushes_70 : decode cX9_pushes 70 = .ok (.imul, 1) := by decide +kernel
theorem dX9_pushes_71 : decode cX9_pushes 71 = .ok (.iconst 1, 1) := by decide +kernel
theorem dX9_pushes_72 : decode cX9_pushes 72 = .ok (.iadd, 1) := by decide +kernel
theorem dX9_pushes_73 : decode cX9_pushes 73 = .ok (.iaload, 1) := by decide +kernel
theorem dX9_pushes_74 : decode cX9_pushes 74 = .ok (.iadd, 1) := by decide +kernel
theorem dX9_pushes_75 : decode cX9_pushes 75 = .ok (.iload_n 3, 1) := by decide +kernel
theorem dX9_pushes_76 : decode cX9_pushes 76 = .ok (.if_icmp .ge 15, 3) := by decide +kernel
theorem dX9_pushes_79 : decode cX9_pushes 79 = .ok (.aload_n 0, 1) := by decide +kernel
theorem dX9_pushes_80 : decode cX9_pushes 80 = .ok (.aload_n 1, 1) := by decide +kernel
theorem dX9_pushes_81 : decode cX9_pushes 81 = .ok (.iconst 2, 1) := by decide +kernel
theorem dX9_pushes_82 : decode cX9_pushes 82 = .ok (.iload_n 2, 1) := by decide +kernel
theorem dX9_pushes_83 : decode cX9_pushes 83 = .ok (.imul, 1) := by decide +kernel
theorem dX9_pushes_84 : decode cX9_pushes 84 = .ok (.iload 7, 2) := by decide +kernel
theorem dX9_pushes_86 : decode cX9_pushes 86 = .ok (.iadd, 1) := by decide +kernel
theorem dX9_pushes_87 : decode cX9_pushes 87 = .ok (.invokevirtual 240, 3) := by decide +kernel
theorem dX9_pushes_90 : decode cX9_pushes 90 = .ok (.return_, 1) := by decide +kernel
theorem dX9_pushes_91 : decode cX9_pushes 91 = .ok (.iload 5, 2) := by decide +kernel
theorem dX9_pushes_93 : decode cX9_pushes 93 = .ok (.iload 6, 2) := by decide +kernel
theorem dX9_pushes_95 : decode cX9_pushes 95 = .ok (.if_icmp .le 11, 3) := by decide +kernel
theorem dX9_pushes_98 : decode cX9_pushes 98 = .ok (.iload 5, 2) := by decide +kernel
theorem dX9_pushes_100 : decode cX9_pushes 100 = .ok (.iload 6, 2) := by decide +kernel
theorem dX9_pushes_102 : decode cX9_pushes 102 = .ok (.isub, 1) := by decide +kernel
theorem dX9_pushes_103 : decode cX9_pushes 103 = .ok (.goto 8, 3) := by decide +kernel
theorem dX9_pushes_106 : decode cX9_pushes 106 = .ok (.iload 6, 2) := by decide +kernel
theorem dX9_pushes_108 : decode cX9_pushes 108 = .ok (.iload 5, 2) := by decide +kernel
theorem dX9_pushes_110 : decode cX9_pushes 110 = .ok (.isub, 1) := by decide +kernel
theorem dX9_pushes_111 : decode cX9_pushes 111 = .ok (.istore 9, 2) := by decide +kernel
theorem dX9_pushes_113 : decode cX9_pushes 113 = .ok (.aload_n 1, 1) := by decide +kernel
theorem dX9_pushes_114 : decode cX9_pushes 114 = .ok (.iconst 2, 1) := by decide +kernel
theorem dX9_pushes_115 : decode cX9_pushes 115 = .ok (.iload_n 2, 1) := by decide +kernel
theorem dX9_pushes_116 : decode cX9_pushes 116 = .ok (.imul, 1) := by decide +kernel
theorem dX9_pushes_117 : decode cX9_pushes 117 = .ok (.iconst 1, 1) := by decide +kernel
theorem dX9_pushes_118 : decode cX9_pushes 118 = .ok (.iadd, 1) := by decide +kernel
theorem dX9_pushes_119 : decode cX9_pushes 119 = .ok (.iload 7, 2) := by decide +kernel
theorem dX9_pushes_121 : decode cX9_pushes 121 = .ok (.isub, 1) := by decide +kernel
theorem dX9_pushes_122 : decode cX9_pushes 122 = .ok (.iaload, 1) := by decide +kernel
theorem dX9_pushes_123 : decode cX9_pushes 123 = .ok (.ifCond .le 73, 3) := by decide +kernel
theorem dX9_pushes_126 : decode cX9_pushes 126 = .ok (.iload 9, 2) := by decide +kernel
theorem dX9_pushes_128 : decode cX9_pushes 128 = .ok (.aload_n 0, 1) := by decide +kernel
theorem dX9_pushes_129 : decode cX9_pushes 129 = .ok (.getfield 9, 3) := by decide +kernel
theorem dX9_pushes_132 : decode cX9_pushes 132 = .ok (.bipush 16, 2) := by decide +kernel
theorem dX9_pushes_134 : decode cX9_pushes 134 = .ok (.aload_n 0, 1) := by decide +kernel
theorem dX9_pushes_135 : decode cX9_pushes 135 = .ok (.getfield 37, 3) := by decide +kernel
theorem dX9_pushes_138 : decode cX9_pushes 138 = .ok (.iload 8, 2) := by decide +kernel
theorem dX9_pushes_140 : decode cX9_pushes 140 = .ok (.iaload, 1) := by decide +kernel
theorem dX9_pushes_141 : decode cX9_pushes 141 = .ok (.iadd, 1) := by decide +kernel
theorem dX9_pushes_142 : decode cX9_pushes 142 = .ok (.iaload, 1) := by decide +kernel
theorem dX9_pushes_143 : decode cX9_pushes 143 = .ok (.if_icmp .le 53, 3) := by decide +kernel
theorem dX9_pushes_146 : decode cX9_pushes 146 = .ok (.aload_n 1, 1) := by decide +kernel
theorem dX9_pushes_147 : decode cX9_pushes 147 = .ok (.iconst 2, 1) := by decide +kernel
theorem dX9_pushes_148 : decode cX9_pushes 148 = .ok (.iload_n 2, 1) := by decide +kernel
theorem dX9_pushes_149 : decode cX9_pushes 149 = .ok (.imul, 1) := by decide +kernel
theorem dX9_pushes_150 : decode cX9_pushes 150 = .ok (.iconst 1, 1) := by decide +kernel
theorem dX9_pushes_151 : decode cX9_pushes 151 = .ok (.iadd, 1) := by decide +kernel
theorem dX9_pushes_152 : decode cX9_pushes 152 = .ok (.iload 7, 2) := by decide +kernel
theorem dX9_pushes_154 : decode cX9_pushes 154 = .ok (.isub, 1) := by decide +kernel
theorem dX9_pushes_155 : decode cX9_pushes 155 = .ok (.dup2, 1) := by decide +kernel
theorem dX9_pushes_156 : decode cX9_pushes 156 = .ok (.iaload, 1) := by decide +kernel
theorem dX9_pushes_157 : decode cX9_pushes 157 = .ok (.iconst 1, 1) := by decide +kernel
theorem dX9_pushes_158 : decode cX9_pushes 158 = .ok (.isub, 1) := by decide +kernel
theorem dX9_pushes_159 : decode cX9_pushes 159 = .ok (.iastore, 1) := by decide +kernel
theorem dX9_pushes_160 : decode cX9_pushes 160 = .ok (.aload_n 0, 1) := by decide +kernel
theorem dX9_pushes_161 : decode cX9_pushes 161 = .ok (.aload_n 1, 1) := by decide +kernel
theorem dX9_pushes_162 : decode cX9_pushes 162 = .ok (.iconst 2, 1) := by decide +kernel
theorem dX9_pushes_163 : decode cX9_pushes 163 = .ok (.iload_n 2, 1) := by decide +kernel
theorem dX9_pushes_164 : decode cX9_pushes 164 = .ok (.imul, 1) := by decide +kernel
theorem dX9_pushes_165 : decode cX9_pushes 165 = .ok (.iload 7, 2) := by decide +kernel
theorem dX9_pushes_167 : decode cX9_pushes 167 = .ok (.iadd, 1) := by decide +kernel
theorem dX9_pushes_168 : decode cX9_pushes 168 = .ok (.invokevirtual 240, 3) := by decide +kernel
theorem dX9_pushes_171 : decode cX9_pushes 171 = .ok (.aload_n 0, 1) := by decide +kernel
theorem dX9_pushes_172 : decode cX9_pushes 172 = .ok (.getfield 49, 3) := by decide +kernel
theorem dX9_pushes_175 : decode cX9_pushes 175 = .ok (.iload_n 2, 1) := by decide +kernel
theorem dX9_pushes_176 : decode cX9_pushes 176 = .ok (.iconst 1, 1) := by decide +kernel
theorem dX9_pushes_177 : decode cX9_pushes 177 = .ok (.iastore, 1) := by decide +kernel
theorem dX9_pushes_178 : decode cX9_pushes 178 = .ok (.aload_n 0, 1) := by decide +kernel
theorem dX9_pushes_179 : decode cX9_pushes 179 = .ok (.getfield 52, 3) := by decide +kernel
theorem dX9_pushes_182 : decode cX9_pushes 182 = .ok (.iload 8, 2) := by decide +kernel
theorem dX9_pushes_184 : decode cX9_pushes 184 = .ok (.iconst 1, 1) := by decide +kernel
theorem dX9_pushes_185 : decode cX9_pushes 185 = .ok (.iastore, 1) := by decide +kernel
theorem dX9_pushes_186 : decode cX9_pushes 186 = .ok (.aload_n 0, 1) := by decide +kernel
theorem dX9_pushes_187 : decode cX9_pushes 187 = .ok (.dup, 1) := by decide +kernel
theorem dX9_pushes_188 : decode cX9_pushes 188 = .ok (.getfield 244, 3) := by decide +kernel
theorem dX9_pushes_191 : decode cX9_pushes 191 = .ok (.iconst 1, 1) := by decide +kernel
theorem dX9_pushes_192 : decode cX9_pushes 192 = .ok (.iadd, 1) := by decide +kernel
theorem dX9_pushes_193 : decode cX9_pushes 193 = .ok (.putfield 244, 3) := by decide +kernel
theorem dX9_pushes_196 : decode cX9_pushes 196 = .ok (.return_, 1) := by decide +kernel
theorem dX9_restGoes_0 : decode cX9_restGoes 0 = .ok (.aload_n 0, 1) := by decide +kernel
theorem dX9_restGoes_1 : decode cX9_restGoes 1 = .ok (.iload_n 2, 1) := by decide +kernel
theorem dX9_restGoes_2 : decode cX9_restGoes 2 = .ok (.iload 4, 2) := by decide +kernel
theorem dX9_restGoes_4 : decode cX9_restGoes 4 = .ok (.invokevirtual 247, 3) := by decide +kernel
theorem dX9_restGoes_7 : decode cX9_restGoes 7 = .ok (.istore 5, 2) := by decide +kernel
theorem dX9_restGoes_9 : decode cX9_restGoes 9 = .ok (.aload_n 0, 1) := by decide +kernel
theorem dX9_restGoes_10 : decode cX9_restGoes 10 = .ok (.iload_n 2, 1) := by decide +kernel
theorem dX9_restGoes_11 : decode cX9_restGoes 11 = .ok (.iconst 1, 1) := by decide +kernel
theorem dX9_restGoes_12 : decode cX9_restGoes 12 = .ok (.iadd, 1) := by decide +kernel
theorem dX9_restGoes_13 : decode cX9_restGoes 13 = .ok (.iload 4, 2) := by decide +kernel
theorem dX9_restGoes_15 : decode cX9_restGoes 15 = .ok (.invokevirtual 247, 3) := by decide +kernel
theorem dX9_restGoes_18 : decode cX9_restGoes 18 = .ok (.istore 6, 2) := by decide +kernel
theorem dX9_restGoes_20 : decode cX9_restGoes 20 = .ok (.iload 5, 2) := by decide +kernel
theorem dX9_restGoes_22 : decode cX9_restGoes 22 = .ok (.ifCond .ne 11, 3) := by decide +kernel
theorem dX9_restGoes_25 : decode cX9_restGoes 25 = .ok (.aload_n 0, 1) := by decide +kernel
theorem dX9_restGoes_26 : decode cX9_restGoes 26 = .ok (.aload_n 1, 1) := by decide +kernel
theorem dX9_restGoes_27 : decode cX9_restGoes 27 = .ok (.iconst 2, 1) := by decide +kernel
theorem dX9_restGoes_28 : decode cX9_restGoes 28 = .ok (.iload_n 2, 1) := by decide +kernel
theorem dX9_restGoes_29 : decode cX9_restGoes 29 = .ok (.imul, 1) := by decide +kernel
theorem dX9_restGoes_30 : decode cX9_restGoes 30 = .ok (.invokevirtual 251, 3) := by decide +kernel
theorem dX9_restGoes_33 : decode cX9_restGoes 33 = .ok (.iload 6, 2) := by decide +kernel
theorem dX9_restGoes_35 : decode cX9_restGoes 35 = .ok (.ifCond .ne 13, 3) := by decide +kernel
theorem dX9_restGoes_38 : decode cX9_restGoes 38 = .ok (.aload_n 0, 1) := by decide +kernel
theorem dX9_restGoes_39 : decode cX9_restGoes 39 = .ok (.aload_n 1, 1) := by decide +kernel
theorem dX9_restGoes_40 : decode cX9_restGoes 40 = .ok (.iconst 2, 1) := by decide +kernel
theorem dX9_restGoes_41 : decode cX9_restGoes 41 = .ok (.iload_n 2, 1) := by decide +kernel
theorem dX9_restGoes_42 : decode cX9_restGoes 42 = .ok (.imul, 1) := by decide +kernel
theorem dX9_restGoes_43 : decode cX9_restGoes 43 = .ok (.iconst 1, 1) := by decide +kernel
theorem dX9_restGoes_44 : decode cX9_restGoes 44 = .ok (.iadd, 1) := by decide +kernel
theorem dX9_restGoes_45 : decode cX9_restGoes 45 = .ok (.invokevirtual 251, 3) := by decide +kernel
theorem dX9_restGoes_48 : decode cX9_restGoes 48 = .ok (.iload 5, 2) := by decide +kernel
theorem dX9_restGoes_50 : decode cX9_restGoes 50 = .ok (.ifCond .eq 20, 3) := by decide +kernel
theorem dX9_restGoes_53 : decode cX9_restGoes 53 = .ok (.iload 6, 2) := by decide +kernel
theorem dX9_restGoes_55 : decode cX9_restGoes 55 = .ok (.ifCond .eq 15, 3) := by decide +kernel
theorem dX9_restGoes_58 : decode cX9_restGoes 58 = .ok (.aload_n 0, 1) := by decide +kernel
theorem dX9_restGoes_59 : decode cX9_restGoes 59 = .ok (.aload_n 1, 1) := by decide +kernel
theorem dX9_restGoes_60 : decode cX9_restGoes 60 = .ok (.iload_n 2, 1) := by decide +kernel
theorem dX9_restGoes_61 : decode cX9_restGoes 61 = .ok (.iload_n 3, 1) := by decide +kernel
theorem dX9_restGoes_62 : decode cX9_restGoes 62 = .ok (.iload 4, 2) := by decide +kernel
theorem dX9_restGoes_64 : decode cX9_restGoes 64 = .ok (.invokevirtual 254, 3) := by decide +kernel
theorem dX9_restGoes_67 : decode cX9_restGoes 67 = .ok (.goto 51, 3) := by decide +kernel
theorem dX9_restGoes_70 : decode cX9_restGoes 70 = .ok (.iload 5, 2) := by decide +kernel
theorem dX9_restGoes_72 : decode cX9_restGoes 72 = .ok (.ifCond .ne 8, 3) := by decide +kernel
theorem dX9_restGoes_75 : decode cX9_restGoes 75 = .ok (.iload 6, 2) := by decide +kernel
theorem dX9_restGoes_77 : decode cX9_restGoes 77 = .ok (.ifCond .eq 41, 3) := by decide +kernel
theorem dX9_restGoes_80 : decode cX9_restGoes 80 = .ok (.aload_n 1, 1) := by decide +kernel
theorem dX9_restGoes_81 : decode cX9_restGoes 81 = .ok (.iconst 2, 1) := by decide +kernel
theorem dX9_restGoes_82 : decode cX9_restGoes 82 = .ok (.iload_n 2, 1) := by decide +kernel
theorem dX9_restGoes_83 : decode cX9_restGoes 83 = .ok (.imul, 1) := by decide +kernel
theorem dX9_restGoes_84 : decode cX9_restGoes 84 = .ok (.iaload, 1) := by decide +kernel
theorem dX9_restGoes_85 : decode cX9_restGoes 85 = .ok (.aload_n 1, 1) := by decide +kernel
theorem dX9_restGoes_86 : decode cX9_restGoes 86 = .ok (.iconst 2, 1) := by decide +kernel
theorem dX9_restGoes_87 : decode cX9_restGoes 87 = .ok (.iload_n 2, 1) := by decide +kernel
theorem dX9_restGoes_88 : decode cX9_restGoes 88 = .ok (.imul, 1) := by decide +kernel
theorem dX9_restGoes_89 : decode cX9_restGoes 89 = .ok (.iconst 1, 1) := by decide +kernel
theorem dX9_restGoes_90 : decode cX9_restGoes 90 = .ok (.iadd, 1) := by decide +kernel
theorem dX9_restGoes_91 : decode cX9_restGoes 91 = .ok (.iaload, 1) := by decide +kernel
theorem dX9_restGoes_92 : decode cX9_restGoes 92 = .ok (.iadd, 1) := by decide +kernel
theorem dX9_restGoes_93 : decode cX9_restGoes 93 = .ok (.iload_n 3, 1) := by decide +kernel
theorem dX9_restGoes_94 : decode cX9_restGoes 94 = .ok (.if_icmp .ge 24, 3) := by decide +kernel
theorem dX9_restGoes_97 : decode cX9_restGoes 97 = .ok (.aload_n 0, 1) := by decide +kernel
theorem dX9_restGoes_98 : decode cX9_restGoes 98 = .ok (.aload_n 1, 1) := by decide +kernel
theorem dX9_restGoes_99 : decode cX9_restGoes 99 = .ok (.iload 5, 2) := by decide +kernel
theorem dX9_restGoes_101 : decode cX9_restGoes 101 = .ok (.ifCond .eq 9, 3) := by decide +kernel
theorem dX9_restGoes_104 : decode cX9_restGoes 104 = .ok (.iconst 2, 1) := by decide +kernel
theorem dX9_restGoes_105 : decode cX9_restGoes 105 = .ok (.iload_n 2, 1) := by decide +kernel
theorem dX9_restGoes_106 : decode cX9_restGoes 106 = .ok (.imul, 1) := by decide +kernel
theorem dX9_restGoes_107 : decode cX9_restGoes 107 = .ok (.goto 8, 3) := by decide +kernel
theorem dX9_restGoes_110 : decode cX9_restGoes 110 = .ok (.iconst 2, 1) := by decide +kernel
theorem dX9_restGoes_111 : decode cX9_restGoes 111 = .ok (.iload_n 2, 1) := by decide +kernel
theorem dX9_restGoes_112 : decode cX9_restGoes 112 = .ok (.imul, 1) := by decide +kernel
theorem dX9_restGoes_113 : decode cX9_restGoes 113 = .ok (.iconst 1, 1) := by decide +kernel
theorem dX9_restGoes_114 : decode cX9_restGoes 114 = .ok (.iadd, 1) := by decide +kernel
theorem dX9_restGoes_115 : decode cX9_restGoes 115 = .ok (.invokevirtual 240, 3) := by decide +kernel
theorem dX9_restGoes_118 : decode cX9_restGoes 118 = .ok (.return_, 1) := by decide +kernel
theorem dX9_comfortIn_0 : decode cX9_comfortIn 0 = .ok (.aload_n 0, 1) := by decide +kernel
theorem dX9_comfortIn_1 : decode cX9_comfortIn 1 = .ok (.getfield 37, 3) := by decide +kernel
theorem dX9_comfortIn_4 : decode cX9_comfortIn 4 = .ok (.iload_n 2, 1) := by decide +kernel
theorem dX9_comfortIn_5 : decode cX9_comfortIn 5 = .ok (.iaload, 1) := by decide +kernel
theorem dX9_comfortIn_6 : decode cX9_comfortIn 6 = .ok (.istore 4, 2) := by decide +kernel
theorem dX9_comfortIn_8 : decode cX9_comfortIn 8 = .ok (.aload_n 0, 1) := by decide +kernel
theorem dX9_comfortIn_9 : decode cX9_comfortIn 9 = .ok (.getfield 25, 3) := by decide +kernel
theorem dX9_comfortIn_12 : decode cX9_comfortIn 12 = .ok (.bipush 24, 2) := by decide +kernel
theorem dX9_comfortIn_14 : decode cX9_comfortIn 14 = .ok (.iload 4, 2) := by decide +kernel
theorem dX9_comfortIn_16 : decode cX9_comfortIn 16 = .ok (.imul, 1) := by decide +kernel
theorem dX9_comfortIn_17 : decode cX9_comfortIn 17 = .ok (.iload_n 3, 1) := by decide +kernel
theorem dX9_comfortIn_18 : decode cX9_comfortIn 18 = .ok (.iadd, 1) := by decide +kernel
theorem dX9_comfortIn_19 : decode cX9_comfortIn 19 = .ok (.iaload, 1) := by decide +kernel
theorem dX9_comfortIn_20 : decode cX9_comfortIn 20 = .ok (.iconst 2, 1) := by decide +kernel
theorem dX9_comfortIn_21 : decode cX9_comfortIn 21 = .ok (.if_icmp .ne 5, 3) := by decide +kernel
theorem dX9_comfortIn_24 : decode cX9_comfortIn 24 = .ok (.iconst 0, 1) := by decide +kernel
theorem dX9_comfortIn_25 : decode cX9_comfortIn 25 = .ok (.ireturn, 1) := by decide +kernel
theorem dX9_comfortIn_26 : decode cX9_comfortIn 26 = .ok (.aload_n 0, 1) := by decide +kernel
theorem dX9_comfortIn_27 : decode cX9_comfortIn 27 = .ok (.aload_n 1, 1) := by decide +kernel
theorem dX9_comfortIn_28 : decode cX9_comfortIn 28 = .ok (.iload_n 2, 1) := by decide +kernel
theorem dX9_comfortIn_29 : decode cX9_comfortIn 29 = .ok (.invokevirtual 164, 3) := by decide +kernel
theorem dX9_comfortIn_32 : decode cX9_comfortIn 32 = .ok (.istore 5, 2) := by decide +kernel
theorem dX9_comfortIn_34 : decode cX9_comfortIn 34 = .ok (.iconst 3, 1) := by decide +kernel
theorem dX9_comfortIn_35 : decode cX9_comfortIn 35 = .ok (.iload 5, 2) := by decide +kernel
theorem dX9_comfortIn_37 : decode cX9_comfortIn 37 = .ok (.aload_n 0, 1) := by decide +kernel
theorem dX9_comfortIn_38 : decode cX9_comfortIn 38 = .ok (.getfield 9, 3) := by decide +kernel
theorem dX9_comfortIn_41 : decode cX9_comfortIn 41 = .ok (.iload 4, 2) := by decide +kernel
theorem dX9_comfortIn_43 : decode cX9_comfortIn 43 = .ok (.iaload, 1) := by decide +kernel
theorem dX9_comfortIn_44 : decode cX9_comfortIn 44 = .ok (.if_icmp .le 13, 3) := by decide +kernel
theorem dX9_comfortIn_47 : decode cX9_comfortIn 47 = .ok (.aload_n 0, 1) := by decide +kernel
theorem dX9_comfortIn_48 : decode cX9_comfortIn 48 = .ok (.getfield 9, 3) := by decide +kernel
theorem dX9_comfortIn_51 : decode cX9_comfortIn 51 = .ok (.iload 4, 2) := by decide +kernel
theorem dX9_comfortIn_53 : decode cX9_comfortIn 53 = .ok (.iaload, 1) := by decide +kernel
theorem dX9_comfortIn_54 : decode cX9_comfortIn 54 = .ok (.goto 5, 3) := by decide +kernel
theorem dX9_comfortIn_57 : decode cX9_comfortIn 57 = .ok (.iload 5, 2) := by decide +kernel
theorem dX9_comfortIn_59 : decode cX9_comfortIn 59 = .ok (.imul, 1) := by decide +kernel
theorem dX9_comfortIn_60 : decode cX9_comfortIn 60 = .ok (.istore 6, 2) := by decide +kernel
theorem dX9_comfortIn_62 : decode cX9_comfortIn 62 = .ok (.iconst 0, 1) := by decide +kernel
theorem dX9_comfortIn_63 : decode cX9_comfortIn 63 = .ok (.istore 7, 2) := by decide +kernel
theorem dX9_comfortIn_65 : decode cX9_comfortIn 65 = .ok (.iload 7, 2) := by decide +kernel
theorem dX9_comfortIn_67 : decode cX9_comfortIn 67 = .ok (.aload_n 0, 1) := by decide +kernel
theorem dX9_comfortIn_68 : decode cX9_comfortIn 68 = .ok (.invokevirtual 118, 3) := by decide +kernel
theorem dX9_comfortIn_71 : decode cX9_comfortIn 71 = .ok (.if_icmp .ge 41, 3) := by decide +kernel
theorem dX9_comfortIn_74 : decode cX9_comfortIn 74 = .ok (.iload 6, 2) := by decide +kernel
theorem dX9_comfortIn_76 : decode cX9_comfortIn 76 = .ok (.iload 7, 2) := by decide +kernel
theorem dX9_comfortIn_78 : decode cX9_comfortIn 78 = .ok (.iload_n 2, 1) := by decide +kernel
theorem dX9_comfortIn_79 : decode cX9_comfortIn 79 = .ok (.if_icmp .eq 11, 3) := by decide +kernel
theorem dX9_comfortIn_82 : decode cX9_comfortIn 82 = .ok (.iload 7, 2) := by decide +kernel
theorem dX9_comfortIn_84 : decode cX9_comfortIn 84 = .ok (.iload_n 2, 1) := by decide +kernel
theorem dX9_comfortIn_85 : decode cX9_comfortIn 85 = .ok (.iconst 1, 1) := by decide +kernel
theorem dX9_comfortIn_86 : decode cX9_comfortIn 86 = .ok (.isub, 1) := by decide +kernel
theorem dX9_comfortIn_87 : decode cX9_comfortIn 87 = .ok (.if_icmp .ne 15, 3) := by decide +kernel
theorem dX9_comfortIn_90 : decode cX9_comfortIn 90 = .ok (.iconst 2, 1) := by decide +kernel
theorem dX9_comfortIn_91 : decode cX9_comfortIn 91 = .ok (.aload_n 0, 1) := by decide +kernel
theorem dX9_comfortIn_92 : decode cX9_comfortIn 92 = .ok (.getfield 49, 3) := by decide +kernel
theorem dX9_comfortIn_95 : decode cX9_comfortIn 95 = .ok (.iload 7, 2) := by decide +kernel
theorem dX9_comfortIn_97 : decode cX9_comfortIn 97 = .ok (.iaload, 1) := by decide +kernel
theorem dX9_comfortIn_98 : decode cX9_comfortIn 98 = .ok (.imul, 1) := by decide +kernel
theorem dX9_comfortIn_99 : decode cX9_comfortIn 99 = .ok (.goto 4, 3) := by decide +kernel
theorem dX9_comfortIn_102 : decode cX9_comfortIn 102 = .ok (.iconst 0, 1) := by decide +kernel
theorem dX9_comfortIn_103 : decode cX9_comfortIn 103 = .ok (.isub, 1) := by decide +kernel
theorem dX9_comfortIn_104 : decode cX9_comfortIn 104 = .ok (.istore 6, 2) := by decide +kernel
theorem dX9_comfortIn_106 : decode cX9_comfortIn 106 = .ok (.iinc 7 1, 3) := by decide +kernel
theorem dX9_comfortIn_109 : decode cX9_comfortIn 109 = .ok (.goto (-44), 3) := by decide +kernel
theorem dX9_comfortIn_112 : decode cX9_comfortIn 112 = .ok (.iload 6, 2) := by decide +kernel
theorem dX9_comfortIn_114 : decode cX9_comfortIn 114 = .ok (.ireturn, 1) := by decide +kernel
theorem dX9_hourGoes_0 : decode cX9_hourGoes 0 = .ok (.aload_n 0, 1) := by decide +kernel
theorem dX9_hourGoes_1 : decode cX9_hourGoes 1 = .ok (.iconst 0, 1) := by decide +kernel
theorem dX9_hourGoes_2 : decode cX9_hourGoes 2 = .ok (.putfield 233, 3) := by decide +kernel
theorem dX9_hourGoes_5 : decode cX9_hourGoes 5 = .ok (.iconst 0, 1) := by decide +kernel
theorem dX9_hourGoes_6 : decode cX9_hourGoes 6 = .ok (.istore 5, 2) := by decide +kernel
theorem dX9_hourGoes_8 : decode cX9_hourGoes 8 = .ok (.iload 5, 2) := by decide +kernel
theorem dX9_hourGoes_10 : decode cX9_hourGoes 10 = .ok (.bipush 7, 2) := by decide +kernel
theorem dX9_hourGoes_12 : decode cX9_hourGoes 12 = .ok (.if_icmp .ge 17, 3) := by decide +kernel
theorem dX9_hourGoes_15 : decode cX9_hourGoes 15 = .ok (.aload_n 0, 1) := by decide +kernel
theorem dX9_hourGoes_16 : decode cX9_hourGoes 16 = .ok (.getfield 49, 3) := by decide +kernel
theorem dX9_hourGoes_19 : decode cX9_hourGoes 19 = .ok (.iload 5, 2) := by decide +kernel
theorem dX9_hourGoes_21 : decode cX9_hourGoes 21 = .ok (.iconst 0, 1) := by decide +kernel
theorem dX9_hourGoes_22 : decode cX9_hourGoes 22 = .ok (.iastore, 1) := by decide +kernel
theorem dX9_hourGoes_23 : decode cX9_hourGoes 23 = .ok (.iinc 5 1, 3) := by decide +kernel
theorem dX9_hourGoes_26 : decode cX9_hourGoes 26 = .ok (.goto (-18), 3) := by decide +kernel
theorem dX9_hourGoes_29 : decode cX9_hourGoes 29 = .ok (.iconst 0, 1) := by decide +kernel
theorem dX9_hourGoes_30 : decode cX9_hourGoes 30 = .ok (.istore 5, 2) := by decide +kernel
theorem dX9_hourGoes_32 : decode cX9_hourGoes 32 = .ok (.iload 5, 2) := by decide +kernel
theorem dX9_hourGoes_34 : decode cX9_hourGoes 34 = .ok (.bipush 8, 2) := by decide +kernel
theorem dX9_hourGoes_36 : decode cX9_hourGoes 36 = .ok (.if_icmp .ge 17, 3) := by decide +kernel
theorem dX9_hourGoes_39 : decode cX9_hourGoes 39 = .ok (.aload_n 0, 1) := by decide +kernel
theorem dX9_hourGoes_40 : decode cX9_hourGoes 40 = .ok (.getfield 52, 3) := by decide +kernel
theorem dX9_hourGoes_43 : decode cX9_hourGoes 43 = .ok (.iload 5, 2) := by decide +kernel
theorem dX9_hourGoes_45 : decode cX9_hourGoes 45 = .ok (.iconst 0, 1) := by decide +kernel
theorem dX9_hourGoes_46 : decode cX9_hourGoes 46 = .ok (.iastore, 1) := by decide +kernel
theorem dX9_hourGoes_47 : decode cX9_hourGoes 47 = .ok (.iinc 5 1, 3) := by decide +kernel
theorem dX9_hourGoes_50 : decode cX9_hourGoes 50 = .ok (.goto (-18), 3) := by decide +kernel
theorem dX9_hourGoes_53 : decode cX9_hourGoes 53 = .ok (.iconst 0, 1) := by decide +kernel
theorem dX9_hourGoes_54 : decode cX9_hourGoes 54 = .ok (.istore 5, 2) := by decide +kernel
theorem dX9_hourGoes_56 : decode cX9_hourGoes 56 = .ok (.iload 5, 2) := by decide +kernel
theorem dX9_hourGoes_58 : decode cX9_hourGoes 58 = .ok (.aload_n 0, 1) := by decide +kernel
theorem dX9_hourGoes_59 : decode cX9_hourGoes 59 = .ok (.invokevirtual 118, 3) := by decide +kernel
theorem dX9_hourGoes_62 : decode cX9_hourGoes 62 = .ok (.if_icmp .ge 35, 3) := by decide +kernel
theorem dX9_hourGoes_65 : decode cX9_hourGoes 65 = .ok (.aload_n 0, 1) := by decide +kernel
theorem dX9_hourGoes_66 : decode cX9_hourGoes 66 = .ok (.aload_n 1, 1) := by decide +kernel
theorem dX9_hourGoes_67 : decode cX9_hourGoes 67 = .ok (.iload 5, 2) := by decide +kernel
theorem dX9_hourGoes_69 : decode cX9_hourGoes 69 = .ok (.iload 5, 2) := by decide +kernel
theorem dX9_hourGoes_71 : decode cX9_hourGoes 71 = .ok (.iload_n 3, 1) := by decide +kernel
theorem dX9_hourGoes_72 : decode cX9_hourGoes 72 = .ok (.if_icmp .ne 8, 3) := by decide +kernel
theorem dX9_hourGoes_75 : decode cX9_hourGoes 75 = .ok (.iload 4, 2) := by decide +kernel
theorem dX9_hourGoes_77 : decode cX9_hourGoes 77 = .ok (.goto 10, 3) := by decide +kernel
theorem dX9_hourGoes_80 : decode cX9_hourGoes 80 = .ok (.aload_n 0, 1) := by decide +kernel
theorem dX9_hourGoes_81 : decode cX9_hourGoes 81 = .ok (.getfield 22, 3) := by decide +kernel
theorem dX9_hourGoes_84 : decode cX9_hourGoes 84 = .ok (.iload 5, 2) := by decide +kernel
theorem dX9_hourGoes_86 : decode cX9_hourGoes 86 = .ok (.iaload, 1) := by decide +kernel
theorem dX9_hourGoes_87 : decode cX9_hourGoes 87 = .ok (.iload_n 2, 1) := by decide +kernel
theorem dX9_hourGoes_88 : decode cX9_hourGoes 88 = .ok (.invokevirtual 258, 3) := by decide +kernel
theorem dX9_hourGoes_91 : decode cX9_hourGoes 91 = .ok (.iinc 5 1, 3) := by decide +kernel
theorem dX9_hourGoes_94 : decode cX9_hourGoes 94 = .ok (.goto (-38), 3) := by decide +kernel
theorem dX9_hourGoes_97 : decode cX9_hourGoes 97 = .ok (.iconst 0, 1) := by decide +kernel
theorem dX9_hourGoes_98 : decode cX9_hourGoes 98 = .ok (.istore 5, 2) := by decide +kernel
theorem dX9_hourGoes_100 : decode cX9_hourGoes 100 = .ok (.iload 5, 2) := by decide +kernel
theorem dX9_hourGoes_102 : decode cX9_hourGoes 102 = .ok (.aload_n 0, 1) := by decide +kernel
theorem dX9_hourGoes_103 : decode cX9_hourGoes 103 = .ok (.getfield 111, 3) := by decide +kernel
theorem dX9_hourGoes_106 : decode cX9_hourGoes 106 = .ok (.if_icmp .ge 32, 3) := by decide +kernel
theorem dX9_hourGoes_109 : decode cX9_hourGoes 109 = .ok (.aload_n 0, 1) := by decide +kernel
theorem dX9_hourGoes_110 : decode cX9_hourGoes 110 = .ok (.getfield 55, 3) := by decide +kernel
theorem dX9_hourGoes_113 : decode cX9_hourGoes 113 = .ok (.aload_n 0, 1) := by decide +kernel
theorem dX9_hourGoes_114 : decode cX9_hourGoes 114 = .ok (.getfield 37, 3) := by decide +kernel
theorem dX9_hourGoes_117 : decode cX9_hourGoes 117 = .ok (.iload 5, 2) := by decide +kernel
theorem dX9_hourGoes_119 : decode cX9_hourGoes 119 = .ok (.iaload, 1) := by decide +kernel
theorem dX9_hourGoes_120 : decode cX9_hourGoes 120 = .ok (.dup2, 1) := by decide +kernel
theorem dX9_hourGoes_121 : decode cX9_hourGoes 121 = .ok (.iaload, 1) := by decide +kernel
theorem dX9_hourGoes_122 : decode cX9_hourGoes 122 = .ok (.aload_n 0, 1) := by decide +kernel
theorem dX9_hourGoes_123 : decode cX9_hourGoes 123 = .ok (.aload_n 1, 1) := by decide +kernel
theorem dX9_hourGoes_124 : decode cX9_hourGoes 124 = .ok (.iload 5, 2) := by decide +kernel
theorem dX9_hourGoes_126 : decode cX9_hourGoes 126 = .ok (.iload_n 2, 1) := by decide +kernel
theorem dX9_hourGoes_127 : decode cX9_hourGoes 127 = .ok (.invokevirtual 261, 3) := by decide +kernel
theorem dX9_hourGoes_130 : decode cX9_hourGoes 130 = .ok (.iadd, 1) := by decide +kernel
theorem dX9_hourGoes_131 : decode cX9_hourGoes 131 = .ok (.iastore, 1) := by decide +kernel
theorem dX9_hourGoes_132 : decode cX9_hourGoes 132 = .ok (.iinc 5 1, 3) := by decide +kernel
theorem dX9_hourGoes_135 : decode cX9_hourGoes 135 = .ok (.goto (-35), 3) := by decide +kernel
theorem dX9_hourGoes_138 : decode cX9_hourGoes 138 = .ok (.return_, 1) := by decide +kernel
theorem dX9_starts_0 : decode cX9_starts 0 = .ok (.aload_n 0, 1) := by decide +kernel
theorem dX9_starts_1 : decode cX9_starts 1 = .ok (.iload_n 1, 1) := by decide +kernel
theorem dX9_starts_2 : decode cX9_starts 2 = .ok (.putfield 229, 3) := by decide +kernel
theorem dX9_starts_5 : decode cX9_starts 5 = .ok (.aload_n 0, 1) := by decide +kernel
theorem dX9_starts_6 : decode cX9_starts 6 = .ok (.iconst 0, 1) := by decide +kernel
theorem dX9_starts_7 : decode cX9_starts 7 = .ok (.putfield 244, 3) := by decide +kernel
theorem dX9_starts_10 : decode cX9_starts 10 = .ok (.iconst 0, 1) := by decide +kernel
theorem dX9_starts_11 : decode cX9_starts 11 = .ok (.istore_n 2, 1) := by decide +kernel
theorem dX9_starts_12 : decode cX9_starts 12 = .ok (.iload_n 2, 1) := by decide +kernel
theorem dX9_starts_13 : decode cX9_starts 13 = .ok (.bipush 8, 2) := by decide +kernel
theorem dX9_starts_15 : decode cX9_starts 15 = .ok (.if_icmp .ge 16, 3) := by decide +kernel
theorem dX9_starts_18 : decode cX9_starts 18 = .ok (.aload_n 0, 1) := by decide +kernel
theorem dX9_starts_19 : decode cX9_starts 19 = .ok (.getfield 55, 3) := by decide +kernel
theorem dX9_starts_22 : decode cX9_starts 22 = .ok (.iload_n 2, 1) := by decide +kernel
theorem dX9_starts_23 : decode cX9_starts 23 = .ok (.iconst 0, 1) := by decide +kernel
theorem dX9_starts_24 : decode cX9_starts 24 = .ok (.iastore, 1) := by decide +kernel
theorem dX9_starts_25 : decode cX9_starts 25 = .ok (.iinc 2 1, 3) := by decide +kernel
theorem dX9_starts_28 : decode cX9_starts 28 = .ok (.goto (-16), 3) := by decide +kernel
theorem dX9_starts_31 : decode cX9_starts 31 = .ok (.return_, 1) := by decide +kernel
theorem dX9_go_0 : decode cX9_go 0 = .ok (.iload_n 2, 1) := by decide +kernel
theorem dX9_go_1 : decode cX9_go 1 = .ok (.i2l, 1) := by decide +kernel
theorem dX9_go_2 : decode cX9_go 2 = .ok (.lconst 1, 1) := by decide +kernel
theorem dX9_go_3 : decode cX9_go 3 = .ok (.ldc2_w 265, 3) := by decide +kernel
theorem dX9_go_6 : decode cX9_go 6 = .ok (.invokestatic 114, 3) := by decide +kernel
theorem dX9_go_9 : decode cX9_go 9 = .ok (.ifCond .ne 5, 3) := by decide +kernel
theorem dX9_go_12 : decode cX9_go 12 = .ok (.iconst (-1), 1) := by decide +kernel
theorem dX9_go_13 : decode cX9_go 13 = .ok (.ireturn, 1) := by decide +kernel
theorem dX9_go_14 : decode cX9_go 14 = .ok (.aload_n 0, 1) := by decide +kernel
theorem dX9_go_15 : decode cX9_go 15 = .ok (.getfield 127, 3) := by decide +kernel
theorem dX9_go_18 : decode cX9_go 18 = .ok (.iload_n 2, 1) := by decide +kernel
theorem dX9_go_19 : decode cX9_go 19 = .ok (.iadd, 1) := by decide +kernel
theorem dX9_go_20 : decode cX9_go 20 = .ok (.bipush 24, 2) := by decide +kernel
theorem dX9_go_22 : decode cX9_go 22 = .ok (.if_icmp .le 6, 3) := by decide +kernel
theorem dX9_go_25 : decode cX9_go 25 = .ok (.bipush (-5), 2) := by decide +kernel
theorem dX9_go_27 : decode cX9_go 27 = .ok (.ireturn, 1) := by decide +kernel
theorem dX9_go_28 : decode cX9_go 28 = .ok (.aload_n 0, 1) := by decide +kernel
theorem dX9_go_29 : decode cX9_go 29 = .ok (.iload_n 1, 1) := by decide +kernel
theorem dX9_go_30 : decode cX9_go 30 = .ok (.invokevirtual 267, 3) := by decide +kernel
theorem dX9_go_33 : decode cX9_go 33 = .ok (.iconst 0, 1) := by decide +kernel
theorem dX9_go_34 : decode cX9_go 34 = .ok (.istore_n 3, 1) := by decide +kernel
theorem dX9_go_35 : decode cX9_go 35 = .ok (.iload_n 3, 1) := by decide +kernel
theorem dX9_go_36 : decode cX9_go 36 = .ok (.iload_n 2, 1) := by decide +kernel
theorem dX9_go_37 : decode cX9_go 37 = .ok (.if_icmp .ge 144, 3) := by decide +kernel
theorem dX9_go_40 : decode cX9_go 40 = .ok (.aload_n 0, 1) := by decide +kernel
theorem dX9_go_41 : decode cX9_go 41 = .ok (.aload_n 0, 1) := by decide +kernel
theorem dX9_go_42 : decode cX9_go 42 = .ok (.getfield 28, 3) := by decide +kernel
theorem dX9_go_45 : decode cX9_go 45 = .ok (.aload_n 0, 1) := by decide +kernel
theorem dX9_go_46 : decode cX9_go 46 = .ok (.getfield 127, 3) := by decide +kernel
theorem dX9_go_49 : decode cX9_go 49 = .ok (.iconst (-1), 1) := by decide +kernel
theorem dX9_go_50 : decode cX9_go 50 = .ok (.iconst 0, 1) := by decide +kernel
theorem dX9_go_51 : decode cX9_go 51 = .ok (.invokevirtual 271, 3) := by decide +kernel
theorem dX9_go_54 : decode cX9_go 54 = .ok (.iconst 0, 1) := by decide +kernel
theorem dX9_go_55 : decode cX9_go 55 = .ok (.istore 4, 2) := by decide +kernel
theorem dX9_go_57 : decode cX9_go 57 = .ok (.iload 4, 2) := by decide +kernel
theorem dX9_go_59 : decode cX9_go 59 = .ok (.bipush 14, 2) := by decide +kernel
theorem dX9_go_61 : decode cX9_go 61 = .ok (.if_icmp .ge 31, 3) := by decide +kernel
theorem dX9_go_64 : decode cX9_go 64 = .ok (.aload_n 0, 1) := by decide +kernel
theorem dX9_go_65 : decode cX9_go 65 = .ok (.getfield 58, 3) := by decide +kernel
theorem dX9_go_68 : decode cX9_go 68 = .ok (.bipush 14, 2) := by decide +kernel
theorem dX9_go_70 : decode cX9_go 70 = .ok (.aload_n 0, 1) := by decide +kernel
theorem dX9_go_71 : decode cX9_go 71 = .ok (.getfield 127, 3) := by decide +kernel
theorem dX9_go_74 : decode cX9_go 74 = .ok (.imul, 1) := by decide +kernel
theorem dX9_go_75 : decode cX9_go 75 = .ok (.iload 4, 2) := by decide +kernel
theorem dX9_go_77 : decode cX9_go 77 = .ok (.iadd, 1) := by decide +kernel
theorem dX9_go_78 : decode cX9_go 78 = .ok (.aload_n 0, 1) := by decide +kernel
theorem dX9_go_79 : decode cX9_go 79 = .ok (.getfield 28, 3) := by decide +kernel
theorem dX9_go_82 : decode cX9_go 82 = .ok (.iload 4, 2) := by decide +kernel
theorem dX9_go_84 : decode cX9_go 84 = .ok (.iaload, 1) := by decide +kernel
theorem dX9_go_85 : decode cX9_go 85 = .ok (.iastore, 1) := by decide +kernel
theorem dX9_go_86 : decode cX9_go 86 = .ok (.iinc 4 1, 3) := by decide +kernel
theorem dX9_go_89 : decode cX9_go 89 = .ok (.goto (-32), 3) := by decide +kernel
theorem dX9_go_92 : decode cX9_go 92 = .ok (.iconst 0, 1) := by decide +kernel
theorem dX9_go_93 : decode cX9_go 93 = .ok (.istore 4, 2) := by decide +kernel
theorem dX9_go_95 : decode cX9_go 95 = .ok (.iload 4, 2) := by decide +kernel
theorem dX9_go_97 : decode cX9_go 97 = .ok (.bipush 7, 2) := by decide +kernel
theorem dX9_go_99 : decode cX9_go 99 = .ok (.if_icmp .ge 31, 3) := by decide +kernel
theorem dX9_go_102 : decode cX9_go 102 = .ok (.aload_n 0, 1) := by decide +kernel
theorem dX9_go_103 : decode cX9_go 103 = .ok (.getfield 61, 3) := by decide +kernel
theorem dX9_go_106 : decode cX9_go 106 = .ok (.bipush 7, 2) := by decide +kernel
theorem dX9_go_108 : decode cX9_go 108 = .ok (.aload_n 0, 1) := by decide +kernel
theorem dX9_go_109 : decode cX9_go 109 = .ok (.getfield 127, 3) := by decide +kernel
theorem dX9_go_112 : decode cX9_go 112 = .ok (.imul, 1) := by decide +kernel
theorem dX9_go_113 : decode cX9_go 113 = .ok (.iload 4, 2) := by decide +kernel
theorem dX9_go_115 : decode cX9_go 115 = .ok (.iadd, 1) := by decide +kernel
theorem dX9_go_116 : decode cX9_go 116 = .ok (.aload_n 0, 1) := by decide +kernel
theorem dX9_go_117 : decode cX9_go 117 = .ok (.getfield 49, 3) := by decide +kernel
theorem dX9_go_120 : decode cX9_go 120 = .ok (.iload 4, 2) := by decide +kernel
theorem dX9_go_122 : decode cX9_go 122 = .ok (.iaload, 1) := by decide +kernel
theorem dX9_go_123 : decode cX9_go 123 = .ok (.iastore, 1) := by decide +kernel
theorem dX9_go_124 : decode cX9_go 124 = .ok (.iinc 4 1, 3) := by decide +kernel
theorem dX9_go_127 : decode cX9_go 127 = .ok (.goto (-32), 3) := by decide +kernel
theorem dX9_go_130 : decode cX9_go 130 = .ok (.iconst 0, 1) := by decide +kernel
theorem dX9_go_131 : decode cX9_go 131 = .ok (.istore 4, 2) := by decide +kernel
theorem dX9_go_133 : decode cX9_go 133 = .ok (.iload 4, 2) := by decide +kernel
theorem dX9_go_135 : decode cX9_go 135 = .ok (.aload_n 0, 1) := by decide +kernel
theorem dX9_go_136 : decode cX9_go 136 = .ok (.getfield 111, 3) := by decide +kernel
theorem dX9_go_139 : decode cX9_go 139 = .ok (.if_icmp .ge 26, 3) := by decide +kernel
theorem dX9_go_142 : decode cX9_go 142 = .ok (.aload_n 0, 1) := by decide +kernel
theorem dX9_go_143 : decode cX9_go 143 = .ok (.getfield 34, 3) := by decide +kernel
theorem dX9_go_146 : decode cX9_go 146 = .ok (.iload 4, 2) := by decide +kernel
theorem dX9_go_148 : decode cX9_go 148 = .ok (.dup2, 1) := by decide +kernel
theorem dX9_go_149 : decode cX9_go 149 = .ok (.iaload, 1) := by decide +kernel
theorem dX9_go_150 : decode cX9_go 150 = .ok (.aload_n 0, 1) := by decide +kernel
theorem dX9_go_151 : decode cX9_go 151 = .ok (.getfield 52, 3) := by decide +kernel
theorem dX9_go_154 : decode cX9_go 154 = .ok (.iload 4, 2) := by decide +kernel
theorem dX9_go_156 : decode cX9_go 156 = .ok (.iaload, 1) := by decide +kernel
theorem dX9_go_157 : decode cX9_go 157 = .ok (.iadd, 1) := by decide +kernel
theorem dX9_go_158 : decode cX9_go 158 = .ok (.iastore, 1) := by decide +kernel
theorem dX9_go_159 : decode cX9_go 159 = .ok (.iinc 4 1, 3) := by decide +kernel
theorem dX9_go_162 : decode cX9_go 162 = .ok (.goto (-29), 3) := by decide +kernel
theorem dX9_go_165 : decode cX9_go 165 = .ok (.aload_n 0, 1) := by decide +kernel
theorem dX9_go_166 : decode cX9_go 166 = .ok (.dup, 1) := by decide +kernel
theorem dX9_go_167 : decode cX9_go 167 = .ok (.getfield 127, 3) := by decide +kernel
theorem dX9_go_170 : decode cX9_go 170 = .ok (.iconst 1, 1) := by decide +kernel
theorem dX9_go_171 : decode cX9_go 171 = .ok (.iadd, 1) := by decide +kernel
theorem dX9_go_172 : decode cX9_go 172 = .ok (.putfield 127, 3) := by decide +kernel
theorem dX9_go_175 : decode cX9_go 175 = .ok (.iinc 3 1, 3) := by decide +kernel
theorem dX9_go_178 : decode cX9_go 178 = .ok (.goto (-143), 3) := by decide +kernel
theorem dX9_go_181 : decode cX9_go 181 = .ok (.iconst 0, 1) := by decide +kernel
theorem dX9_go_182 : decode cX9_go 182 = .ok (.istore_n 3, 1) := by decide +kernel
theorem dX9_go_183 : decode cX9_go 183 = .ok (.iload_n 3, 1) := by decide +kernel
theorem dX9_go_184 : decode cX9_go 184 = .ok (.aload_n 0, 1) := by decide +kernel
theorem dX9_go_185 : decode cX9_go 185 = .ok (.getfield 111, 3) := by decide +kernel
theorem dX9_go_188 : decode cX9_go 188 = .ok (.if_icmp .ge 24, 3) := by decide +kernel
theorem dX9_go_191 : decode cX9_go 191 = .ok (.aload_n 0, 1) := by decide +kernel
theorem dX9_go_192 : decode cX9_go 192 = .ok (.getfield 31, 3) := by decide +kernel
theorem dX9_go_195 : decode cX9_go 195 = .ok (.iload_n 3, 1) := by decide +kernel
theorem dX9_go_196 : decode cX9_go 196 = .ok (.dup2, 1) := by decide +kernel
theorem dX9_go_197 : decode cX9_go 197 = .ok (.iaload, 1) := by decide +kernel
theorem dX9_go_198 : decode cX9_go 198 = .ok (.aload_n 0, 1) := by decide +kernel
theorem dX9_go_199 : decode cX9_go 199 = .ok (.getfield 55, 3) := by decide +kernel
theorem dX9_go_202 : decode cX9_go 202 = .ok (.iload_n 3, 1) := by decide +kernel
theorem dX9_go_203 : decode cX9_go 203 = .ok (.iaload, 1) := by decide +kernel
theorem dX9_go_204 : decode cX9_go 204 = .ok (.iadd, 1) := by decide +kernel
theorem dX9_go_205 : decode cX9_go 205 = .ok (.iastore, 1) := by decide +kernel
theorem dX9_go_206 : decode cX9_go 206 = .ok (.iinc 3 1, 3) := by decide +kernel
theorem dX9_go_209 : decode cX9_go 209 = .ok (.goto (-26), 3) := by decide +kernel
theorem dX9_go_212 : decode cX9_go 212 = .ok (.aload_n 0, 1) := by decide +kernel
theorem dX9_go_213 : decode cX9_go 213 = .ok (.dup, 1) := by decide +kernel
theorem dX9_go_214 : decode cX9_go 214 = .ok (.getfield 274, 3) := by decide +kernel
theorem dX9_go_217 : decode cX9_go 217 = .ok (.aload_n 0, 1) := by decide +kernel
theorem dX9_go_218 : decode cX9_go 218 = .ok (.getfield 244, 3) := by decide +kernel
theorem dX9_go_221 : decode cX9_go 221 = .ok (.iadd, 1) := by decide +kernel
theorem dX9_go_222 : decode cX9_go 222 = .ok (.putfield 274, 3) := by decide +kernel
theorem dX9_go_225 : decode cX9_go 225 = .ok (.aload_n 0, 1) := by decide +kernel
theorem dX9_go_226 : decode cX9_go 226 = .ok (.getfield 244, 3) := by decide +kernel
theorem dX9_go_229 : decode cX9_go 229 = .ok (.ireturn, 1) := by decide +kernel
theorem dX9_led_0 : decode cX9_led 0 = .ok (.iload_n 1, 1) := by decide +kernel
theorem dX9_led_1 : decode cX9_led 1 = .ok (.ifCond .lt 37, 3) := by decide +kernel
theorem dX9_led_4 : decode cX9_led 4 = .ok (.iload_n 1, 1) := by decide +kernel
theorem dX9_led_5 : decode cX9_led 5 = .ok (.bipush 10, 2) := by decide +kernel
theorem dX9_led_7 : decode cX9_led 7 = .ok (.idiv, 1) := by decide +kernel
theorem dX9_led_8 : decode cX9_led 8 = .ok (.aload_n 0, 1) := by decide +kernel
theorem dX9_led_9 : decode cX9_led 9 = .ok (.getfield 127, 3) := by decide +kernel
theorem dX9_led_12 : decode cX9_led 12 = .ok (.if_icmp .ge 26, 3) := by decide +kernel
theorem dX9_led_15 : decode cX9_led 15 = .ok (.aload_n 0, 1) := by decide +kernel
theorem dX9_led_16 : decode cX9_led 16 = .ok (.iload_n 1, 1) := by decide +kernel
theorem dX9_led_17 : decode cX9_led 17 = .ok (.bipush 10, 2) := by decide +kernel
theorem dX9_led_19 : decode cX9_led 19 = .ok (.irem, 1) := by decide +kernel
theorem dX9_led_20 : decode cX9_led 20 = .ok (.invokevirtual 168, 3) := by decide +kernel
theorem dX9_led_23 : decode cX9_led 23 = .ok (.ifCond .eq 15, 3) := by decide +kernel
theorem dX9_led_26 : decode cX9_led 26 = .ok (.iload_n 2, 1) := by decide +kernel
theorem dX9_led_27 : decode cX9_led 27 = .ok (.i2l, 1) := by decide +kernel
theorem dX9_led_28 : decode cX9_led 28 = .ok (.lconst 0, 1) := by decide +kernel
theorem dX9_led_29 : decode cX9_led 29 = .ok (.ldc2_w 277, 3) := by decide +kernel
theorem dX9_led_32 : decode cX9_led 32 = .ok (.invokestatic 114, 3) := by decide +kernel
theorem dX9_led_35 : decode cX9_led 35 = .ok (.ifCond .ne 5, 3) := by decide +kernel
theorem dX9_led_38 : decode cX9_led 38 = .ok (.iconst (-1), 1) := by decide +kernel
theorem dX9_led_39 : decode cX9_led 39 = .ok (.ireturn, 1) := by decide +kernel
theorem dX9_led_40 : decode cX9_led 40 = .ok (.iload_n 2, 1) := by decide +kernel
theorem dX9_led_41 : decode cX9_led 41 = .ok (.iconst 2, 1) := by decide +kernel
theorem dX9_led_42 : decode cX9_led 42 = .ok (.if_icmp .ne 23, 3) := by decide +kernel
theorem dX9_led_45 : decode cX9_led 45 = .ok (.aload_n 0, 1) := by decide +kernel
theorem dX9_led_46 : decode cX9_led 46 = .ok (.getfield 61, 3) := by decide +kernel
theorem dX9_led_49 : decode cX9_led 49 = .ok (.bipush 7, 2) := by decide +kernel
theorem dX9_led_51 : decode cX9_led 51 = .ok (.iload_n 1, 1) := by decide +kernel
theorem dX9_led_52 : decode cX9_led 52 = .ok (.bipush 10, 2) := by decide +kernel
theorem dX9_led_54 : decode cX9_led 54 = .ok (.idiv, 1) := by decide +kernel
theorem dX9_led_55 : decode cX9_led 55 = .ok (.imul, 1) := by decide +kernel
theorem dX9_led_56 : decode cX9_led 56 = .ok (.iload_n 1, 1) := by decide +kernel
theorem dX9_led_57 : decode cX9_led 57 = .ok (.bipush 10, 2) := by decide +kernel
theorem dX9_led_59 : decode cX9_led 59 = .ok (.irem, 1) := by decide +kernel
theorem dX9_led_60 : decode cX9_led 60 = .ok (.iadd, 1) := by decide +kernel
theorem dX9_led_61 : decode cX9_led 61 = .ok (.iaload, 1) := by decide +kernel
theorem dX9_led_62 : decode cX9_led 62 = .ok (.goto 24, 3) := by decide +kernel
theorem dX9_led_65 : decode cX9_led 65 = .ok (.aload_n 0, 1) := by decide +kernel
theorem dX9_led_66 : decode cX9_led 66 = .ok (.getfield 58, 3) := by decide +kernel
theorem dX9_led_69 : decode cX9_led 69 = .ok (.bipush 14, 2) := by decide +kernel
theorem dX9_led_71 : decode cX9_led 71 = .ok (.iload_n 1, 1) := by decide +kernel
theorem dX9_led_72 : decode cX9_led 72 = .ok (.bipush 10, 2) := by decide +kernel
theorem dX9_led_74 : decode cX9_led 74 = .ok (.idiv, 1) := by decide +kernel
theorem dX9_led_75 : decode cX9_led 75 = .ok (.imul, 1) := by decide +kernel
theorem dX9_led_76 : decode cX9_led 76 = .ok (.iconst 2, 1) := by decide +kernel
theorem dX9_led_77 : decode cX9_led 77 = .ok (.iload_n 1, 1) := by decide +kernel
theorem dX9_led_78 : decode cX9_led 78 = .ok (.bipush 10, 2) := by decide +kernel
theorem dX9_led_80 : decode cX9_led 80 = .ok (.irem, 1) := by decide +kernel
theorem dX9_led_81 : decode cX9_led 81 = .ok (.imul, 1) := by decide +kernel
theorem dX9_led_82 : decode cX9_led 82 = .ok (.iadd, 1) := by decide +kernel
theorem dX9_led_83 : decode cX9_led 83 = .ok (.iload_n 2, 1) := by decide +kernel
theorem dX9_led_84 : decode cX9_led 84 = .ok (.iadd, 1) := by decide +kernel
theorem dX9_led_85 : decode cX9_led 85 = .ok (.iaload, 1) := by decide +kernel
theorem dX9_led_86 : decode cX9_led 86 = .ok (.ireturn, 1) := by decide +kernel
theorem dX9_judge_0 : decode cX9_judge 0 = .ok (.iload_n 1, 1) := by decide +kernel
theorem dX9_judge_1 : decode cX9_judge 1 = .ok (.invokestatic 134, 3) := by decide +kernel
theorem dX9_judge_4 : decode cX9_judge 4 = .ok (.ifCond .eq 11, 3) := by decide +kernel
theorem dX9_judge_7 : decode cX9_judge 7 = .ok (.aload_n 0, 1) := by decide +kernel
theorem dX9_judge_8 : decode cX9_judge 8 = .ok (.iload_n 2, 1) := by decide +kernel
theorem dX9_judge_9 : decode cX9_judge 9 = .ok (.invokevirtual 168, 3) := by decide +kernel
theorem dX9_judge_12 : decode cX9_judge 12 = .ok (.ifCond .ne 5, 3) := by decide +kernel
theorem dX9_judge_15 : decode cX9_judge 15 = .ok (.iconst (-1), 1) := by decide +kernel
theorem dX9_judge_16 : decode cX9_judge 16 = .ok (.ireturn, 1) := by decide +kernel
theorem dX9_judge_17 : decode cX9_judge 17 = .ok (.aload_n 0, 1) := by decide +kernel
theorem dX9_judge_18 : decode cX9_judge 18 = .ok (.getfield 88, 3) := by decide +kernel
theorem dX9_judge_21 : decode cX9_judge 21 = .ok (.iload_n 1, 1) := by decide +kernel
theorem dX9_judge_22 : decode cX9_judge 22 = .ok (.iaload, 1) := by decide +kernel
theorem dX9_judge_23 : decode cX9_judge 23 = .ok (.ifCond .ge 6, 3) := by decide +kernel
theorem dX9_judge_26 : decode cX9_judge 26 = .ok (.bipush (-11), 2) := by decide +kernel
theorem dX9_judge_28 : decode cX9_judge 28 = .ok (.ireturn, 1) := by decide +kernel
theorem dX9_judge_29 : decode cX9_judge 29 = .ok (.aload_n 0, 1) := by decide +kernel
theorem dX9_judge_30 : decode cX9_judge 30 = .ok (.getfield 88, 3) := by decide +kernel
theorem dX9_judge_33 : decode cX9_judge 33 = .ok (.iload_n 1, 1) := by decide +kernel
theorem dX9_judge_34 : decode cX9_judge 34 = .ok (.iaload, 1) := by decide +kernel
theorem dX9_judge_35 : decode cX9_judge 35 = .ok (.bipush 50, 2) := by decide +kernel
theorem dX9_judge_37 : decode cX9_judge 37 = .ok (.if_icmp .eq 6, 3) := by decide +kernel
theorem dX9_judge_40 : decode cX9_judge 40 = .ok (.bipush (-12), 2) := by decide +kernel
theorem dX9_judge_42 : decode cX9_judge 42 = .ok (.ireturn, 1) := by decide +kernel
theorem dX9_judge_43 : decode cX9_judge 43 = .ok (.iconst 0, 1) := by decide +kernel
theorem dX9_judge_44 : decode cX9_judge 44 = .ok (.istore_n 3, 1) := by decide +kernel
theorem dX9_judge_45 : decode cX9_judge 45 = .ok (.iload_n 3, 1) := by decide +kernel
theorem dX9_judge_46 : decode cX9_judge 46 = .ok (.aload_n 0, 1) := by decide +kernel
theorem dX9_judge_47 : decode cX9_judge 47 = .ok (.getfield 91, 3) := by decide +kernel
theorem dX9_judge_50 : decode cX9_judge 50 = .ok (.iload_n 1, 1) := by decide +kernel
theorem dX9_judge_51 : decode cX9_judge 51 = .ok (.iaload, 1) := by decide +kernel
theorem dX9_judge_52 : decode cX9_judge 52 = .ok (.if_icmp .ge 58, 3) := by decide +kernel
theorem dX9_judge_55 : decode cX9_judge 55 = .ok (.iload_n 3, 1) := by decide +kernel
theorem dX9_judge_56 : decode cX9_judge 56 = .ok (.iconst 2, 1) := by decide +kernel
theorem dX9_judge_57 : decode cX9_judge 57 = .ok (.aload_n 0, 1) := by decide +kernel
theorem dX9_judge_58 : decode cX9_judge 58 = .ok (.getfield 127, 3) := by decide +kernel
theorem dX9_judge_61 : decode cX9_judge 61 = .ok (.imul, 1) := by decide +kernel
theorem dX9_judge_62 : decode cX9_judge 62 = .ok (.if_icmp .ge 48, 3) := by decide +kernel
theorem dX9_judge_65 : decode cX9_judge 65 = .ok (.aload_n 0, 1) := by decide +kernel
theorem dX9_judge_66 : decode cX9_judge 66 = .ok (.getfield 94, 3) := by decide +kernel
theorem dX9_judge_69 : decode cX9_judge 69 = .ok (.bipush 60, 2) := by decide +kernel
theorem dX9_judge_71 : decode cX9_judge 71 = .ok (.iload_n 1, 1) := by decide +kernel
theorem dX9_judge_72 : decode cX9_judge 72 = .ok (.imul, 1) := by decide +kernel
theorem dX9_judge_73 : decode cX9_judge 73 = .ok (.iload_n 3, 1) := by decide +kernel
theorem dX9_judge_74 : decode cX9_judge 74 = .ok (.iadd, 1) := by decide +kernel
theorem dX9_judge_75 : decode cX9_judge 75 = .ok (.laload, 1) := by decide +kernel
theorem dX9_judge_76 : decode cX9_judge 76 = .ok (.aload_n 0, 1) := by decide +kernel
theorem dX9_judge_77 : decode cX9_judge 77 = .ok (.getfield 58, 3) := by decide +kernel
theorem dX9_judge_80 : decode cX9_judge 80 = .ok (.bipush 14, 2) := by decide +kernel
theorem dX9_judge_82 : decode cX9_judge 82 = .ok (.iload_n 3, 1) := by decide +kernel
theorem dX9_judge_83 : decode cX9_judge 83 = .ok (.iconst 2, 1) := by decide +kernel
theorem dX9_judge_84 : decode cX9_judge 84 = .ok (.idiv, 1) := by decide +kernel
theorem dX9_judge_85 : decode cX9_judge 85 = .ok (.imul, 1) := by decide +kernel
theorem dX9_judge_86 : decode cX9_judge 86 = .ok (.iconst 2, 1) := by decide +kernel
theorem dX9_judge_87 : decode cX9_judge 87 = .ok (.iload_n 2, 1) := by decide +kernel
theorem dX9_judge_88 : decode cX9_judge 88 = .ok (.imul, 1) := by decide +kernel
theorem dX9_judge_89 : decode cX9_judge 89 = .ok (.iadd, 1) := by decide +kernel
theorem dX9_judge_90 : decode cX9_judge 90 = .ok (.iload_n 3, 1) := by decide +kernel
theorem dX9_judge_91 : decode cX9_judge 91 = .ok (.iconst 2, 1) := by decide +kernel
theorem dX9_judge_92 : decode cX9_judge 92 = .ok (.irem, 1) := by decide +kernel
theorem dX9_judge_93 : decode cX9_judge 93 = .ok (.iadd, 1) := by decide +kernel
theorem dX9_judge_94 : decode cX9_judge 94 = .ok (.iaload, 1) := by decide +kernel
theorem dX9_judge_95 : decode cX9_judge 95 = .ok (.i2l, 1) := by decide +kernel
theorem dX9_judge_96 : decode cX9_judge 96 = .ok (.lcmp, 1) := by decide +kernel
theorem dX9_judge_97 : decode cX9_judge 97 = .ok (.ifCond .eq 7, 3) := by decide +kernel
theorem dX9_judge_100 : decode cX9_judge 100 = .ok (.iload_n 3, 1) := by decide +kernel
theorem dX9_judge_101 : decode cX9_judge 101 = .ok (.iconst 2, 1) := by decide +kernel
theorem dX9_judge_102 : decode cX9_judge 102 = .ok (.idiv, 1) := by decide +kernel
theorem dX9_judge_103 : decode cX9_judge 103 = .ok (.ireturn, 1) := by decide +kernel
theorem dX9_judge_104 : decode cX9_judge 104 = .ok (.iinc 3 1, 3) := by decide +kernel
theorem dX9_judge_107 : decode cX9_judge 107 = .ok (.goto (-62), 3) := by decide +kernel
theorem dX9_judge_110 : decode cX9_judge 110 = .ok (.bipush (-2), 2) := by decide +kernel
theorem dX9_judge_112 : decode cX9_judge 112 = .ok (.ireturn, 1) := by decide +kernel
theorem dX9_isAsItWas_0 : decode cX9_isAsItWas 0 = .ok (.aload_n 0, 1) := by decide +kernel
theorem dX9_isAsItWas_1 : decode cX9_isAsItWas 1 = .ok (.iload_n 1, 1) := by decide +kernel
theorem dX9_isAsItWas_2 : decode cX9_isAsItWas 2 = .ok (.invokevirtual 267, 3) := by decide +kernel
theorem dX9_isAsItWas_5 : decode cX9_isAsItWas 5 = .ok (.iconst 0, 1) := by decide +kernel
theorem dX9_isAsItWas_6 : decode cX9_isAsItWas 6 = .ok (.istore_n 2, 1) := by decide +kernel
theorem dX9_isAsItWas_7 : decode cX9_isAsItWas 7 = .ok (.iload_n 2, 1) := by decide +kernel
theorem dX9_isAsItWas_8 : decode cX9_isAsItWas 8 = .ok (.bipush 14, 2) := by decide +kernel
theorem dX9_isAsItWas_10 : decode cX9_isAsItWas 10 = .ok (.if_icmp .ge 16, 3) := by decide +kernel
theorem dX9_isAsItWas_13 : decode cX9_isAsItWas 13 = .ok (.aload_n 0, 1) := by decide +kernel
theorem dX9_isAsItWas_14 : decode cX9_isAsItWas 14 = .ok (.getfield 64, 3) := by decide +kernel
theorem dX9_isAsItWas_17 : decode cX9_isAsItWas 17 = .ok (.iload_n 2, 1) := by decide +kernel
theorem dX9_isAsItWas_18 : decode cX9_isAsItWas 18 = .ok (.iconst 0, 1) := by decide +kernel
theorem dX9_isAsItWas_19 : decode cX9_isAsItWas 19 = .ok (.iastore, 1) := by decide +kernel
theorem dX9_isAsItWas_20 : decode cX9_isAsItWas 20 = .ok (.iinc 2 1, 3) := by decide +kernel
theorem dX9_isAsItWas_23 : decode cX9_isAsItWas 23 = .ok (.goto (-16), 3) := by decide +kernel
theorem dX9_isAsItWas_26 : decode cX9_isAsItWas 26 = .ok (.iconst 0, 1) := by decide +kernel
theorem dX9_isAsItWas_27 : decode cX9_isAsItWas 27 = .ok (.istore_n 2, 1) := by decide +kernel
theorem dX9_isAsItWas_28 : decode cX9_isAsItWas 28 = .ok (.iload_n 2, 1) := by decide +kernel
theorem dX9_isAsItWas_29 : decode cX9_isAsItWas 29 = .ok (.aload_n 0, 1) := by decide +kernel
theorem dX9_isAsItWas_30 : decode cX9_isAsItWas 30 = .ok (.getfield 127, 3) := by decide +kernel
theorem dX9_isAsItWas_33 : decode cX9_isAsItWas 33 = .ok (.if_icmp .ge 108, 3) := by decide +kernel
theorem dX9_isAsItWas_36 : decode cX9_isAsItWas 36 = .ok (.aload_n 0, 1) := by decide +kernel
theorem dX9_isAsItWas_37 : decode cX9_isAsItWas 37 = .ok (.aload_n 0, 1) := by decide +kernel
theorem dX9_isAsItWas_38 : decode cX9_isAsItWas 38 = .ok (.getfield 64, 3) := by decide +kernel
theorem dX9_isAsItWas_41 : decode cX9_isAsItWas 41 = .ok (.iload_n 2, 1) := by decide +kernel
theorem dX9_isAsItWas_42 : decode cX9_isAsItWas 42 = .ok (.iconst (-1), 1) := by decide +kernel
theorem dX9_isAsItWas_43 : decode cX9_isAsItWas 43 = .ok (.iconst 0, 1) := by decide +kernel
theorem dX9_isAsItWas_44 : decode cX9_isAsItWas 44 = .ok (.invokevirtual 271, 3) := by decide +kernel
theorem dX9_isAsItWas_47 : decode cX9_isAsItWas 47 = .ok (.iconst 0, 1) := by decide +kernel
theorem dX9_isAsItWas_48 : decode cX9_isAsItWas 48 = .ok (.istore_n 3, 1) := by decide +kernel
theorem dX9_isAsItWas_49 : decode cX9_isAsItWas 49 = .ok (.iload_n 3, 1) := by decide +kernel
theorem dX9_isAsItWas_50 : decode cX9_isAsItWas 50 = .ok (.aload_n 0, 1) := by decide +kernel
theorem dX9_isAsItWas_51 : decode cX9_isAsItWas 51 = .ok (.invokevirtual 118, 3) := by decide +kernel
theorem dX9_isAsItWas_54 : decode cX9_isAsItWas 54 = .ok (.if_icmp .ge 81, 3) := by decide +kernel
theorem dX9_isAsItWas_57 : decode cX9_isAsItWas 57 = .ok (.bipush 14, 2) := by decide +kernel
theorem dX9_isAsItWas_59 : decode cX9_isAsItWas 59 = .ok (.iload_n 2, 1) := by decide +kernel
theorem dX9_isAsItWas_60 : decode cX9_isAsItWas 60 = .ok (.imul, 1) := by decide +kernel
theorem dX9_isAsItWas_61 : decode cX9_isAsItWas 61 = .ok (.iconst 2, 1) := by decide +kernel
theorem dX9_isAsItWas_62 : decode cX9_isAsItWas 62 = .ok (.iload_n 3, 1) := by decide +kernel
theorem dX9_isAsItWas_63 : decode cX9_isAsItWas 63 = .ok (.imul, 1) := by decide +kernel
theorem dX9_isAsItWas_64 : decode cX9_isAsItWas 64 = .ok (.iadd, 1) := by decide +kernel
theorem dX9_isAsItWas_65 : decode cX9_isAsItWas 65 = .ok (.istore 4, 2) := by decide +kernel
theorem dX9_isAsItWas_67 : decode cX9_isAsItWas 67 = .ok (.aload_n 0, 1) := by decide +kernel
theorem dX9_isAsItWas_68 : decode cX9_isAsItWas 68 = .ok (.getfield 64, 3) := by decide +kernel
theorem dX9_isAsItWas_71 : decode cX9_isAsItWas 71 = .ok (.iconst 2, 1) := by decide +kernel
theorem dX9_isAsItWas_72 : decode cX9_isAsItWas 72 = .ok (.iload_n 3, 1) := by decide +kernel
theorem dX9_isAsItWas_73 : decode cX9_isAsItWas 73 = .ok (.imul, 1) := by decide +kernel
theorem dX9_isAsItWas_74 : decode cX9_isAsItWas 74 = .ok (.iaload, 1) := by decide +kernel
theorem dX9_isAsItWas_75 : decode cX9_isAsItWas 75 = .ok (.aload_n 0, 1) := by decide +kernel
theorem dX9_isAsItWas_76 : decode cX9_isAsItWas 76 = .ok (.getfield 58, 3) := by decide +kernel
theorem dX9_isAsItWas_79 : decode cX9_isAsItWas 79 = .ok (.iload 4, 2) := by decide +kernel
theorem dX9_isAsItWas_81 : decode cX9_isAsItWas 81 = .ok (.iaload, 1) := by decide +kernel
theorem dX9_isAsItWas_82 : decode cX9_isAsItWas 82 = .ok (.if_icmp .ne 45, 3) := by decide +kernel
theorem dX9_isAsItWas_85 : decode cX9_isAsItWas 85 = .ok (.aload_n 0, 1) := by decide +kernel
theorem dX9_isAsItWas_86 : decode cX9_isAsItWas 86 = .ok (.getfield 64, 3) := by decide +kernel
theorem dX9_isAsItWas_89 : decode cX9_isAsItWas 89 = .ok (.iconst 2, 1) := by decide +kernel
theorem dX9_isAsItWas_90 : decode cX9_isAsItWas 90 = .ok (.iload_n 3, 1) := by decide +kernel
theorem dX9_isAsItWas_91 : decode cX9_isAsItWas 91 = .ok (.imul, 1) := by decide +kernel
theorem dX9_isAsItWas_92 : decode cX9_isAsItWas 92 = .ok (.iconst 1, 1) := by decide +kernel
theorem dX9_isAsItWas_93 : decode cX9_isAsItWas 93 = .ok (.iadd, 1) := by decide +kernel
theorem dX9_isAsItWas_94 : decode cX9_isAsItWas 94 = .ok (.iaload, 1) := by decide +kernel
theorem dX9_isAsItWas_95 : decode cX9_isAsItWas 95 = .ok (.aload_n 0, 1) := by decide +kernel
theorem dX9_isAsItWas_96 : decode cX9_isAsItWas 96 = .ok (.getfield 58, 3) := by decide +kernel
theorem dX9_isAsItWas_99 : decode cX9_isAsItWas 99 = .ok (.iload 4, 2) := by decide +kernel
theorem dX9_isAsItWas_101 : decode cX9_isAsItWas 101 = .ok (.iconst 1, 1) := by decide +kernel
theorem dX9_isAsItWas_102 : decode cX9_isAsItWas 102 = .ok (.iadd, 1) := by decide +kernel
theorem dX9_isAsItWas_103 : decode cX9_isAsItWas 103 = .ok (.iaload, 1) := by decide +kernel
theorem dX9_isAsItWas_104 : decode cX9_isAsItWas 104 = .ok (.if_icmp .ne 23, 3) := by decide +kernel
theorem dX9_isAsItWas_107 : decode cX9_isAsItWas 107 = .ok (.aload_n 0, 1) := by decide +kernel
theorem dX9_isAsItWas_108 : decode cX9_isAsItWas 108 = .ok (.getfield 49, 3) := by decide +kernel
theorem dX9_isAsItWas_111 : decode cX9_isAsItWas 111 = .ok (.iload_n 3, 1) := by decide +kernel
theorem dX9_isAsItWas_112 : decode cX9_isAsItWas 112 = .ok (.iaload, 1) := by decide +kernel
theorem dX9_isAsItWas_113 : decode cX9_isAsItWas 113 = .ok (.aload_n 0, 1) := by decide +kernel
theorem dX9_isAsItWas_114 : decode cX9_isAsItWas 114 = .ok (.getfield 61, 3) := by decide +kernel
theorem dX9_isAsItWas_117 : decode cX9_isAsItWas 117 = .ok (.bipush 7, 2) := by decide +kernel
theorem dX9_isAsItWas_119 : decode cX9_isAsItWas 119 = .ok (.iload_n 2, 1) := by decide +kernel
theorem dX9_isAsItWas_120 : decode cX9_isAsItWas 120 = .ok (.imul, 1) := by decide +kernel
theorem dX9_isAsItWas_121 : decode cX9_isAsItWas 121 = .ok (.iload_n 3, 1) := by decide +kernel
theorem dX9_isAsItWas_122 : decode cX9_isAsItWas 122 = .ok (.iadd, 1) := by decide +kernel
theorem dX9_isAsItWas_123 : decode cX9_isAsItWas 123 = .ok (.iaload, 1) := by decide +kernel
theorem dX9_isAsItWas_124 : decode cX9_isAsItWas 124 = .ok (.if_icmp .eq 5, 3) := by decide +kernel
theorem dX9_isAsItWas_127 : decode cX9_isAsItWas 127 = .ok (.iconst 0, 1) := by decide +kernel
theorem dX9_isAsItWas_128 : decode cX9_isAsItWas 128 = .ok (.ireturn, 1) := by decide +kernel
theorem dX9_isAsItWas_129 : decode cX9_isAsItWas 129 = .ok (.iinc 3 1, 3) := by decide +kernel
theorem dX9_isAsItWas_132 : decode cX9_isAsItWas 132 = .ok (.goto (-83), 3) := by decide +kernel
theorem dX9_isAsItWas_135 : decode cX9_isAsItWas 135 = .ok (.iinc 2 1, 3) := by decide +kernel
theorem dX9_isAsItWas_138 : decode cX9_isAsItWas 138 = .ok (.goto (-110), 3) := by decide +kernel
theorem dX9_isAsItWas_141 : decode cX9_isAsItWas 141 = .ok (.iconst 1, 1) := by decide +kernel
theorem dX9_isAsItWas_142 : decode cX9_isAsItWas 142 = .ok (.ireturn, 1) := by decide +kernel
theorem dX9_match_0 : decode cX9_match 0 = .ok (.aload_n 0, 1) := by decide +kernel
theorem dX9_match_1 : decode cX9_match 1 = .ok (.getfield 127, 3) := by decide +kernel
theorem dX9_match_4 : decode cX9_match 4 = .ok (.ifCond .ne 6, 3) := by decide +kernel
theorem dX9_match_7 : decode cX9_match 7 = .ok (.bipush (-5), 2) := by decide +kernel
theorem dX9_match_9 : decode cX9_match 9 = .ok (.ireturn, 1) := by decide +kernel
theorem dX9_match_10 : decode cX9_match 10 = .ok (.iconst 0, 1) := by decide +kernel
theorem dX9_match_11 : decode cX9_match 11 = .ok (.istore_n 1, 1) := by decide +kernel
theorem dX9_match_12 : decode cX9_match 12 = .ok (.iload_n 1, 1) := by decide +kernel
theorem dX9_match_13 : decode cX9_match 13 = .ok (.bipush 100, 2) := by decide +kernel
theorem dX9_match_15 : decode cX9_match 15 = .ok (.if_icmp .ge 19, 3) := by decide +kernel
theorem dX9_match_18 : decode cX9_match 18 = .ok (.aload_n 0, 1) := by decide +kernel
theorem dX9_match_19 : decode cX9_match 19 = .ok (.iload_n 1, 1) := by decide +kernel
theorem dX9_match_20 : decode cX9_match 20 = .ok (.invokevirtual 279, 3) := by decide +kernel
theorem dX9_match_23 : decode cX9_match 23 = .ok (.ifCond .eq 5, 3) := by decide +kernel
theorem dX9_match_26 : decode cX9_match 26 = .ok (.iload_n 1, 1) := by decide +kernel
theorem dX9_match_27 : decode cX9_match 27 = .ok (.ireturn, 1) := by decide +kernel
theorem dX9_match_28 : decode cX9_match 28 = .ok (.iinc 1 1, 3) := by decide +kernel
theorem dX9_match_31 : decode cX9_match 31 = .ok (.goto (-19), 3) := by decide +kernel
theorem dX9_match_34 : decode cX9_match 34 = .ok (.bipush (-2), 2) := by decide +kernel
theorem dX9_match_36 : decode cX9_match 36 = .ok (.ireturn, 1) := by decide +kernel
theorem dX9_thinks_0 : decode cX9_thinks 0 = .ok (.aload_n 0, 1) := by decide +kernel
theorem dX9_thinks_1 : decode cX9_thinks 1 = .ok (.iload_n 1, 1) := by decide +kernel
theorem dX9_thinks_2 : decode cX9_thinks 2 = .ok (.invokevirtual 267, 3) := by decide +kernel
theorem dX9_thinks_5 : decode cX9_thinks 5 = .ok (.iconst 0, 1) := by decide +kernel
theorem dX9_thinks_6 : decode cX9_thinks 6 = .ok (.istore_n 2, 1) := by decide +kernel
theorem dX9_thinks_7 : decode cX9_thinks 7 = .ok (.iload_n 2, 1) := by decide +kernel
theorem dX9_thinks_8 : decode cX9_thinks 8 = .ok (.bipush 14, 2) := by decide +kernel
theorem dX9_thinks_10 : decode cX9_thinks 10 = .ok (.if_icmp .ge 21, 3) := by decide +kernel
theorem dX9_thinks_13 : decode cX9_thinks 13 = .ok (.aload_n 0, 1) := by decide +kernel
theorem dX9_thinks_14 : decode cX9_thinks 14 = .ok (.getfield 64, 3) := by decide +kernel
theorem dX9_thinks_17 : decode cX9_thinks 17 = .ok (.iload_n 2, 1) := by decide +kernel
theorem dX9_thinks_18 : decode cX9_thinks 18 = .ok (.aload_n 0, 1) := by decide +kernel
theorem dX9_thinks_19 : decode cX9_thinks 19 = .ok (.getfield 28, 3) := by decide +kernel
theorem dX9_thinks_22 : decode cX9_thinks 22 = .ok (.iload_n 2, 1) := by decide +kernel
theorem dX9_thinks_23 : decode cX9_thinks 23 = .ok (.iaload, 1) := by decide +kernel
theorem dX9_thinks_24 : decode cX9_thinks 24 = .ok (.iastore, 1) := by decide +kernel
theorem dX9_thinks_25 : decode cX9_thinks 25 = .ok (.iinc 2 1, 3) := by decide +kernel
theorem dX9_thinks_28 : decode cX9_thinks 28 = .ok (.goto (-21), 3) := by decide +kernel
theorem dX9_thinks_31 : decode cX9_thinks 31 = .ok (.return_, 1) := by decide +kernel
theorem dX9_goesOn_0 : decode cX9_goesOn 0 = .ok (.aload_n 0, 1) := by decide +kernel
theorem dX9_goesOn_1 : decode cX9_goesOn 1 = .ok (.iload_n 1, 1) := by decide +kernel
theorem dX9_goesOn_2 : decode cX9_goesOn 2 = .ok (.invokevirtual 282, 3) := by decide +kernel
theorem dX9_goesOn_5 : decode cX9_goesOn 5 = .ok (.iconst 0, 1) := by decide +kernel
theorem dX9_goesOn_6 : decode cX9_goesOn 6 = .ok (.istore_n 3, 1) := by decide +kernel
theorem dX9_goesOn_7 : decode cX9_goesOn 7 = .ok (.iload_n 3, 1) := by decide +kernel
theorem dX9_goesOn_8 : decode cX9_goesOn 8 = .ok (.iload_n 2, 1) := by decide +kernel
theorem dX9_goesOn_9 : decode cX9_goesOn 9 = .ok (.if_icmp .ge 25, 3) := by decide +kernel
theorem dX9_goesOn_12 : decode cX9_goesOn 12 = .ok (.aload_n 0, 1) := by decide +kernel
theorem dX9_goesOn_13 : decode cX9_goesOn 13 = .ok (.aload_n 0, 1) := by decide +kernel
theorem dX9_goesOn_14 : decode cX9_goesOn 14 = .ok (.getfield 64, 3) := by decide +kernel
theorem dX9_goesOn_17 : decode cX9_goesOn 17 = .ok (.aload_n 0, 1) := by decide +kernel
theorem dX9_goesOn_18 : decode cX9_goesOn 18 = .ok (.getfield 127, 3) := by decide +kernel
theorem dX9_goesOn_21 : decode cX9_goesOn 21 = .ok (.iload_n 3, 1) := by decide +kernel
theorem dX9_goesOn_22 : decode cX9_goesOn 22 = .ok (.iadd, 1) := by decide +kernel
theorem dX9_goesOn_23 : decode cX9_goesOn 23 = .ok (.iconst (-1), 1) := by decide +kernel
theorem dX9_goesOn_24 : decode cX9_goesOn 24 = .ok (.iconst 0, 1) := by decide +kernel
theorem dX9_goesOn_25 : decode cX9_goesOn 25 = .ok (.invokevirtual 271, 3) := by decide +kernel
theorem dX9_goesOn_28 : decode cX9_goesOn 28 = .ok (.iinc 3 1, 3) := by decide +kernel
theorem dX9_goesOn_31 : decode cX9_goesOn 31 = .ok (.goto (-24), 3) := by decide +kernel
theorem dX9_goesOn_34 : decode cX9_goesOn 34 = .ok (.return_, 1) := by decide +kernel
theorem dX9_then_0 : decode cX9_then 0 = .ok (.iload_n 3, 1) := by decide +kernel
theorem dX9_then_1 : decode cX9_then 1 = .ok (.iconst (-1), 1) := by decide +kernel
theorem dX9_then_2 : decode cX9_then 2 = .ok (.if_icmp .ne 12, 3) := by decide +kernel
theorem dX9_then_5 : decode cX9_then 5 = .ok (.iload 4, 2) := by decide +kernel
theorem dX9_then_7 : decode cX9_then 7 = .ok (.ifCond .ne 7, 3) := by decide +kernel
theorem dX9_then_10 : decode cX9_then 10 = .ok (.iconst 1, 1) := by decide +kernel
theorem dX9_then_11 : decode cX9_then 11 = .ok (.goto 4, 3) := by decide +kernel
theorem dX9_then_14 : decode cX9_then 14 = .ok (.iconst 0, 1) := by decide +kernel
theorem dX9_then_15 : decode cX9_then 15 = .ok (.istore 5, 2) := by decide +kernel
theorem dX9_then_17 : decode cX9_then 17 = .ok (.iload_n 2, 1) := by decide +kernel
theorem dX9_then_18 : decode cX9_then 18 = .ok (.i2l, 1) := by decide +kernel
theorem dX9_then_19 : decode cX9_then 19 = .ok (.lconst 0, 1) := by decide +kernel
theorem dX9_then_20 : decode cX9_then 20 = .ok (.ldc2_w 265, 3) := by decide +kernel
theorem dX9_then_23 : decode cX9_then 23 = .ok (.invokestatic 114, 3) := by decide +kernel
theorem dX9_then_26 : decode cX9_then 26 = .ok (.ifCond .eq 27, 3) := by decide +kernel
theorem dX9_then_29 : decode cX9_then 29 = .ok (.iload 5, 2) := by decide +kernel
theorem dX9_then_31 : decode cX9_then 31 = .ok (.ifCond .ne 25, 3) := by decide +kernel
theorem dX9_then_34 : decode cX9_then 34 = .ok (.aload_n 0, 1) := by decide +kernel
theorem dX9_then_35 : decode cX9_then 35 = .ok (.iload_n 3, 1) := by decide +kernel
theorem dX9_then_36 : decode cX9_then 36 = .ok (.invokevirtual 146, 3) := by decide +kernel
theorem dX9_then_39 : decode cX9_then 39 = .ok (.ifCond .eq 14, 3) := by decide +kernel
theorem dX9_then_42 : decode cX9_then 42 = .ok (.iload 4, 2) := by decide +kernel
theorem dX9_then_44 : decode cX9_then 44 = .ok (.i2l, 1) := by decide +kernel
theorem dX9_then_45 : decode cX9_then 45 = .ok (.lconst 0, 1) := by decide +kernel
theorem dX9_then_46 : decode cX9_then 46 = .ok (.lconst 1, 1) := by decide +kernel
theorem dX9_then_47 : decode cX9_then 47 = .ok (.invokestatic 114, 3) := by decide +kernel
theorem dX9_then_50 : decode cX9_then 50 = .ok (.ifCond .ne 6, 3) := by decide +kernel
theorem dX9_then_53 : decode cX9_then 53 = .ok (.ldc 159, 2) := by decide +kernel
theorem dX9_then_55 : decode cX9_then 55 = .ok (.ireturn, 1) := by decide +kernel
theorem dX9_then_56 : decode cX9_then 56 = .ok (.aload_n 0, 1) := by decide +kernel
theorem dX9_then_57 : decode cX9_then 57 = .ok (.getfield 127, 3) := by decide +kernel
theorem dX9_then_60 : decode cX9_then 60 = .ok (.iload_n 2, 1) := by decide +kernel
theorem dX9_then_61 : decode cX9_then 61 = .ok (.iadd, 1) := by decide +kernel
theorem dX9_then_62 : decode cX9_then 62 = .ok (.bipush 24, 2) := by decide +kernel
theorem dX9_then_64 : decode cX9_then 64 = .ok (.if_icmp .le 6, 3) := by decide +kernel
theorem dX9_then_67 : decode cX9_then 67 = .ok (.bipush (-5), 2) := by decide +kernel
theorem dX9_then_69 : decode cX9_then 69 = .ok (.ireturn, 1) := by decide +kernel
theorem dX9_then_70 : decode cX9_then 70 = .ok (.aload_n 0, 1) := by decide +kernel
theorem dX9_then_71 : decode cX9_then 71 = .ok (.iload_n 1, 1) := by decide +kernel
theorem dX9_then_72 : decode cX9_then 72 = .ok (.iload_n 2, 1) := by decide +kernel
theorem dX9_then_73 : decode cX9_then 73 = .ok (.invokevirtual 285, 3) := by decide +kernel
theorem dX9_then_76 : decode cX9_then 76 = .ok (.iload 5, 2) := by decide +kernel
theorem dX9_then_78 : decode cX9_then 78 = .ok (.ifCond .eq 10, 3) := by decide +kernel
theorem dX9_then_81 : decode cX9_then 81 = .ok (.aload_n 0, 1) := by decide +kernel
theorem dX9_then_82 : decode cX9_then 82 = .ok (.getfield 244, 3) := by decide +kernel
theorem dX9_then_85 : decode cX9_then 85 = .ok (.goto 26, 3) := by decide +kernel
theorem dX9_then_88 : decode cX9_then 88 = .ok (.iload 4, 2) := by decide +kernel
theorem dX9_then_90 : decode cX9_then 90 = .ok (.ifCond .ne 15, 3) := by decide +kernel
theorem dX9_then_93 : decode cX9_then 93 = .ok (.aload_n 0, 1) := by decide +kernel
theorem dX9_then_94 : decode cX9_then 94 = .ok (.aload_n 0, 1) := by decide +kernel
theorem dX9_then_95 : decode cX9_then 95 = .ok (.getfield 64, 3) := by decide +kernel
theorem dX9_then_98 : decode cX9_then 98 = .ok (.iload_n 3, 1) := by decide +kernel
theorem dX9_then_99 : decode cX9_then 99 = .ok (.invokevirtual 164, 3) := by decide +kernel
theorem dX9_then_102 : decode cX9_then 102 = .ok (.goto 9, 3) := by decide +kernel
theorem dX9_then_105 : decode cX9_then 105 = .ok (.aload_n 0, 1) := by decide +kernel
theorem dX9_then_106 : decode cX9_then 106 = .ok (.getfield 55, 3) := by decide +kernel
theorem dX9_then_109 : decode cX9_then 109 = .ok (.iload_n 3, 1) := by decide +kernel
theorem dX9_then_110 : decode cX9_then 110 = .ok (.iaload, 1) := by decide +kernel
theorem dX9_then_111 : decode cX9_then 111 = .ok (.ireturn, 1) := by decide +kernel
theorem dX9_quiet_0 : decode cX9_quiet 0 = .ok (.aload_n 0, 1) := by decide +kernel
theorem dX9_quiet_1 : decode cX9_quiet 1 = .ok (.iload_n 1, 1) := by decide +kernel
theorem dX9_quiet_2 : decode cX9_quiet 2 = .ok (.invokevirtual 282, 3) := by decide +kernel
theorem dX9_quiet_5 : decode cX9_quiet 5 = .ok (.aload_n 0, 1) := by decide +kernel
theorem dX9_quiet_6 : decode cX9_quiet 6 = .ok (.getfield 127, 3) := by decide +kernel
theorem dX9_quiet_9 : decode cX9_quiet 9 = .ok (.istore_n 2, 1) := by decide +kernel
theorem dX9_quiet_10 : decode cX9_quiet 10 = .ok (.aload_n 0, 1) := by decide +kernel
theorem dX9_quiet_11 : decode cX9_quiet 11 = .ok (.getfield 127, 3) := by decide +kernel
theorem dX9_quiet_14 : decode cX9_quiet 14 = .ok (.istore_n 3, 1) := by decide +kernel
theorem dX9_quiet_15 : decode cX9_quiet 15 = .ok (.iload_n 3, 1) := by decide +kernel
theorem dX9_quiet_16 : decode cX9_quiet 16 = .ok (.bipush 24, 2) := by decide +kernel
theorem dX9_quiet_18 : decode cX9_quiet 18 = .ok (.if_icmp .ge 35, 3) := by decide +kernel
theorem dX9_quiet_21 : decode cX9_quiet 21 = .ok (.aload_n 0, 1) := by decide +kernel
theorem dX9_quiet_22 : decode cX9_quiet 22 = .ok (.aload_n 0, 1) := by decide +kernel
theorem dX9_quiet_23 : decode cX9_quiet 23 = .ok (.getfield 64, 3) := by decide +kernel
theorem dX9_quiet_26 : decode cX9_quiet 26 = .ok (.iload_n 3, 1) := by decide +kernel
theorem dX9_quiet_27 : decode cX9_quiet 27 = .ok (.iconst (-1), 1) := by decide +kernel
theorem dX9_quiet_28 : decode cX9_quiet 28 = .ok (.iconst 0, 1) := by decide +kernel
theorem dX9_quiet_29 : decode cX9_quiet 29 = .ok (.invokevirtual 271, 3) := by decide +kernel
theorem dX9_quiet_32 : decode cX9_quiet 32 = .ok (.aload_n 0, 1) := by decide +kernel
theorem dX9_quiet_33 : decode cX9_quiet 33 = .ok (.getfield 233, 3) := by decide +kernel
theorem dX9_quiet_36 : decode cX9_quiet 36 = .ok (.ifCond .eq 9, 3) := by decide +kernel
theorem dX9_quiet_39 : decode cX9_quiet 39 = .ok (.iload_n 3, 1) := by decide +kernel
theorem dX9_quiet_40 : decode cX9_quiet 40 = .ok (.iconst 1, 1) := by decide +kernel
theorem dX9_quiet_41 : decode cX9_quiet 41 = .ok (.iadd, 1) := by decide +kernel
theorem dX9_quiet_42 : decode cX9_quiet 42 = .ok (.goto 4, 3) := by decide +kernel
theorem dX9_quiet_45 : decode cX9_quiet 45 = .ok (.iload_n 2, 1) := by decide +kernel
theorem dX9_quiet_46 : decode cX9_quiet 46 = .ok (.istore_n 2, 1) := by decide +kernel
theorem dX9_quiet_47 : decode cX9_quiet 47 = .ok (.iinc 3 1, 3) := by decide +kernel
theorem dX9_quiet_50 : decode cX9_quiet 50 = .ok (.goto (-35), 3) := by decide +kernel
theorem dX9_quiet_53 : decode cX9_quiet 53 = .ok (.iload_n 2, 1) := by decide +kernel
theorem dX9_quiet_54 : decode cX9_quiet 54 = .ok (.bipush 24, 2) := by decide +kernel
theorem dX9_quiet_56 : decode cX9_quiet 56 = .ok (.if_icmp .lt 17, 3) := by decide +kernel
theorem dX9_quiet_59 : decode cX9_quiet 59 = .ok (.aload_n 0, 1) := by decide +kernel
theorem dX9_quiet_60 : decode cX9_quiet 60 = .ok (.getfield 127, 3) := by decide +kernel
theorem dX9_quiet_63 : decode cX9_quiet 63 = .ok (.bipush 24, 2) := by decide +kernel
theorem dX9_quiet_65 : decode cX9_quiet 65 = .ok (.if_icmp .ge 8, 3) := by decide +kernel
theorem dX9_quiet_68 : decode cX9_quiet 68 = .ok (.bipush (-2), 2) := by decide +kernel
theorem dX9_quiet_70 : decode cX9_quiet 70 = .ok (.goto 4, 3) := by decide +kernel
theorem dX9_quiet_73 : decode cX9_quiet 73 = .ok (.iload_n 2, 1) := by decide +kernel
theorem dX9_quiet_74 : decode cX9_quiet 74 = .ok (.ireturn, 1) := by decide +kernel
theorem dX9_swaps_0 : decode cX9_swaps 0 = .ok (.aload_n 0, 1) := by decide +kernel
theorem dX9_swaps_1 : decode cX9_swaps 1 = .ok (.getfield 37, 3) := by decide +kernel
theorem dX9_swaps_4 : decode cX9_swaps 4 = .ok (.iload_n 1, 1) := by decide +kernel
theorem dX9_swaps_5 : decode cX9_swaps 5 = .ok (.iaload, 1) := by decide +kernel
theorem dX9_swaps_6 : decode cX9_swaps 6 = .ok (.istore_n 3, 1) := by decide +kernel
theorem dX9_swaps_7 : decode cX9_swaps 7 = .ok (.aload_n 0, 1) := by decide +kernel
theorem dX9_swaps_8 : decode cX9_swaps 8 = .ok (.getfield 37, 3) := by decide +kernel
theorem dX9_swaps_11 : decode cX9_swaps 11 = .ok (.iload_n 1, 1) := by decide +kernel
theorem dX9_swaps_12 : decode cX9_swaps 12 = .ok (.aload_n 0, 1) := by decide +kernel
theorem dX9_swaps_13 : decode cX9_swaps 13 = .ok (.getfield 37, 3) := by decide +kernel
theorem dX9_swaps_16 : decode cX9_swaps 16 = .ok (.iload_n 2, 1) := by decide +kernel
theorem dX9_swaps_17 : decode cX9_swaps 17 = .ok (.iaload, 1) := by decide +kernel
theorem dX9_swaps_18 : decode cX9_swaps 18 = .ok (.iastore, 1) := by decide +kernel
theorem dX9_swaps_19 : decode cX9_swaps 19 = .ok (.aload_n 0, 1) := by decide +kernel
theorem dX9_swaps_20 : decode cX9_swaps 20 = .ok (.getfield 37, 3) := by decide +kernel
theorem dX9_swaps_23 : decode cX9_swaps 23 = .ok (.iload_n 2, 1) := by decide +kernel
theorem dX9_swaps_24 : decode cX9_swaps 24 = .ok (.iload_n 3, 1) := by decide +kernel
theorem dX9_swaps_25 : decode cX9_swaps 25 = .ok (.iastore, 1) := by decide +kernel
theorem dX9_swaps_26 : decode cX9_swaps 26 = .ok (.return_, 1) := by decide +kernel
theorem dX9_seat_0 : decode cX9_seat 0 = .ok (.aload_n 0, 1) := by decide +kernel
theorem dX9_seat_1 : decode cX9_seat 1 = .ok (.iload_n 2, 1) := by decide +kernel
theorem dX9_seat_2 : decode cX9_seat 2 = .ok (.invokevirtual 146, 3) := by decide +kernel
theorem dX9_seat_5 : decode cX9_seat 5 = .ok (.ifCond .ne 5, 3) := by decide +kernel
theorem dX9_seat_8 : decode cX9_seat 8 = .ok (.iconst (-1), 1) := by decide +kernel
theorem dX9_seat_9 : decode cX9_seat 9 = .ok (.ireturn, 1) := by decide +kernel
theorem dX9_seat_10 : decode cX9_seat 10 = .ok (.aload_n 0, 1) := by decide +kernel
theorem dX9_seat_11 : decode cX9_seat 11 = .ok (.iload_n 1, 1) := by decide +kernel
theorem dX9_seat_12 : decode cX9_seat 12 = .ok (.bipush 24, 2) := by decide +kernel
theorem dX9_seat_14 : decode cX9_seat 14 = .ok (.aload_n 0, 1) := by decide +kernel
theorem dX9_seat_15 : decode cX9_seat 15 = .ok (.getfield 127, 3) := by decide +kernel
theorem dX9_seat_18 : decode cX9_seat 18 = .ok (.isub, 1) := by decide +kernel
theorem dX9_seat_19 : decode cX9_seat 19 = .ok (.invokevirtual 285, 3) := by decide +kernel
theorem dX9_seat_22 : decode cX9_seat 22 = .ok (.iload_n 2, 1) := by decide +kernel
theorem dX9_seat_23 : decode cX9_seat 23 = .ok (.istore_n 3, 1) := by decide +kernel
theorem dX9_seat_24 : decode cX9_seat 24 = .ok (.aload_n 0, 1) := by decide +kernel
theorem dX9_seat_25 : decode cX9_seat 25 = .ok (.getfield 55, 3) := by decide +kernel
theorem dX9_seat_28 : decode cX9_seat 28 = .ok (.iload_n 2, 1) := by decide +kernel
theorem dX9_seat_29 : decode cX9_seat 29 = .ok (.iaload, 1) := by decide +kernel
theorem dX9_seat_30 : decode cX9_seat 30 = .ok (.istore 4, 2) := by decide +kernel
theorem dX9_seat_32 : decode cX9_seat 32 = .ok (.iconst 0, 1) := by decide +kernel
theorem dX9_seat_33 : decode cX9_seat 33 = .ok (.istore 5, 2) := by decide +kernel
theorem dX9_seat_35 : decode cX9_seat 35 = .ok (.iload 5, 2) := by decide +kernel
theorem dX9_seat_37 : decode cX9_seat 37 = .ok (.aload_n 0, 1) := by decide +kernel
theorem dX9_seat_38 : decode cX9_seat 38 = .ok (.getfield 111, 3) := by decide +kernel
theorem dX9_seat_41 : decode cX9_seat 41 = .ok (.if_icmp .ge 66, 3) := by decide +kernel
theorem dX9_seat_44 : decode cX9_seat 44 = .ok (.iload 5, 2) := by decide +kernel
theorem dX9_seat_46 : decode cX9_seat 46 = .ok (.iload_n 2, 1) := by decide +kernel
theorem dX9_seat_47 : decode cX9_seat 47 = .ok (.if_icmp .ne 6, 3) := by decide +kernel
theorem dX9_seat_50 : decode cX9_seat 50 = .ok (.goto 51, 3) := by decide +kernel
theorem dX9_seat_53 : decode cX9_seat 53 = .ok (.aload_n 0, 1) := by decide +kernel
theorem dX9_seat_54 : decode cX9_seat 54 = .ok (.iload_n 2, 1) := by decide +kernel
theorem dX9_seat_55 : decode cX9_seat 55 = .ok (.iload 5, 2) := by decide +kernel
theorem dX9_seat_57 : decode cX9_seat 57 = .ok (.invokevirtual 289, 3) := by decide +kernel
theorem dX9_seat_60 : decode cX9_seat 60 = .ok (.aload_n 0, 1) := by decide +kernel
theorem dX9_seat_61 : decode cX9_seat 61 = .ok (.iload_n 1, 1) := by decide +kernel
theorem dX9_seat_62 : decode cX9_seat 62 = .ok (.bipush 24, 2) := by decide +kernel
theorem dX9_seat_64 : decode cX9_seat 64 = .ok (.aload_n 0, 1) := by decide +kernel
theorem dX9_seat_65 : decode cX9_seat 65 = .ok (.getfield 127, 3) := by decide +kernel
theorem dX9_seat_68 : decode cX9_seat 68 = .ok (.isub, 1) := by decide +kernel
theorem dX9_seat_69 : decode cX9_seat 69 = .ok (.invokevirtual 285, 3) := by decide +kernel
theorem dX9_seat_72 : decode cX9_seat 72 = .ok (.aload_n 0, 1) := by decide +kernel
theorem dX9_seat_73 : decode cX9_seat 73 = .ok (.iload_n 2, 1) := by decide +kernel
theorem dX9_seat_74 : decode cX9_seat 74 = .ok (.iload 5, 2) := by decide +kernel
theorem dX9_seat_76 : decode cX9_seat 76 = .ok (.invokevirtual 289, 3) := by decide +kernel
theorem dX9_seat_79 : decode cX9_seat 79 = .ok (.aload_n 0, 1) := by decide +kernel
theorem dX9_seat_80 : decode cX9_seat 80 = .ok (.getfield 55, 3) := by decide +kernel
theorem dX9_seat_83 : decode cX9_seat 83 = .ok (.iload_n 2, 1) := by decide +kernel
theorem dX9_seat_84 : decode cX9_seat 84 = .ok (.iaload, 1) := by decide +kernel
theorem dX9_seat_85 : decode cX9_seat 85 = .ok (.iload 4, 2) := by decide +kernel
theorem dX9_seat_87 : decode cX9_seat 87 = .ok (.if_icmp .le 14, 3) := by decide +kernel
theorem dX9_seat_90 : decode cX9_seat 90 = .ok (.iload 5, 2) := by decide +kernel
theorem dX9_seat_92 : decode cX9_seat 92 = .ok (.istore_n 3, 1) := by decide +kernel
theorem dX9_seat_93 : decode cX9_seat 93 = .ok (.aload_n 0, 1) := by decide +kernel
theorem dX9_seat_94 : decode cX9_seat 94 = .ok (.getfield 55, 3) := by decide +kernel
theorem dX9_seat_97 : decode cX9_seat 97 = .ok (.iload_n 2, 1) := by decide +kernel
theorem dX9_seat_98 : decode cX9_seat 98 = .ok (.iaload, 1) := by decide +kernel
theorem dX9_seat_99 : decode cX9_seat 99 = .ok (.istore 4, 2) := by decide +kernel
theorem dX9_seat_101 : decode cX9_seat 101 = .ok (.iinc 5 1, 3) := by decide +kernel
theorem dX9_seat_104 : decode cX9_seat 104 = .ok (.goto (-69), 3) := by decide +kernel
theorem dX9_seat_107 : decode cX9_seat 107 = .ok (.iload_n 3, 1) := by decide +kernel
theorem dX9_seat_108 : decode cX9_seat 108 = .ok (.ireturn, 1) := by decide +kernel
theorem dX9_allThatComes_0 : decode cX9_allThatComes 0 = .ok (.aload_n 0, 1) := by decide +kernel
theorem dX9_allThatComes_1 : decode cX9_allThatComes 1 = .ok (.iload_n 1, 1) := by decide +kernel
theorem dX9_allThatComes_2 : decode cX9_allThatComes 2 = .ok (.bipush 24, 2) := by decide +kernel
theorem dX9_allThatComes_4 : decode cX9_allThatComes 4 = .ok (.aload_n 0, 1) := by decide +kernel
theorem dX9_allThatComes_5 : decode cX9_allThatComes 5 = .ok (.getfield 127, 3) := by decide +kernel
theorem dX9_allThatComes_8 : decode cX9_allThatComes 8 = .ok (.isub, 1) := by decide +kernel
theorem dX9_allThatComes_9 : decode cX9_allThatComes 9 = .ok (.invokevirtual 285, 3) := by decide +kernel
theorem dX9_allThatComes_12 : decode cX9_allThatComes 12 = .ok (.iconst 0, 1) := by decide +kernel
theorem dX9_allThatComes_13 : decode cX9_allThatComes 13 = .ok (.istore_n 2, 1) := by decide +kernel
theorem dX9_allThatComes_14 : decode cX9_allThatComes 14 = .ok (.iconst 0, 1) := by decide +kernel
theorem dX9_allThatComes_15 : decode cX9_allThatComes 15 = .ok (.istore_n 3, 1) := by decide +kernel
theorem dX9_allThatComes_16 : decode cX9_allThatComes 16 = .ok (.iload_n 3, 1) := by decide +kernel
theorem dX9_allThatComes_17 : decode cX9_allThatComes 17 = .ok (.aload_n 0, 1) := by decide +kernel
theorem dX9_allThatComes_18 : decode cX9_allThatComes 18 = .ok (.getfield 111, 3) := by decide +kernel
theorem dX9_allThatComes_21 : decode cX9_allThatComes 21 = .ok (.if_icmp .ge 18, 3) := by decide +kernel
theorem dX9_allThatComes_24 : decode cX9_allThatComes 24 = .ok (.iload_n 2, 1) := by decide +kernel
theorem dX9_allThatComes_25 : decode cX9_allThatComes 25 = .ok (.aload_n 0, 1) := by decide +kernel
theorem dX9_allThatComes_26 : decode cX9_allThatComes 26 = .ok (.getfield 55, 3) := by decide +kernel
theorem dX9_allThatComes_29 : decode cX9_allThatComes 29 = .ok (.iload_n 3, 1) := by decide +kernel
theorem dX9_allThatComes_30 : decode cX9_allThatComes 30 = .ok (.iaload, 1) := by decide +kernel
theorem dX9_allThatComes_31 : decode cX9_allThatComes 31 = .ok (.iadd, 1) := by decide +kernel
theorem dX9_allThatComes_32 : decode cX9_allThatComes 32 = .ok (.istore_n 2, 1) := by decide +kernel
theorem dX9_allThatComes_33 : decode cX9_allThatComes 33 = .ok (.iinc 3 1, 3) := by decide +kernel
theorem dX9_allThatComes_36 : decode cX9_allThatComes 36 = .ok (.goto (-20), 3) := by decide +kernel
theorem dX9_allThatComes_39 : decode cX9_allThatComes 39 = .ok (.iload_n 2, 1) := by decide +kernel
theorem dX9_allThatComes_40 : decode cX9_allThatComes 40 = .ok (.ireturn, 1) := by decide +kernel
theorem dX9_change_0 : decode cX9_change 0 = .ok (.bipush (-2), 2) := by decide +kernel
theorem dX9_change_2 : decode cX9_change 2 = .ok (.istore_n 2, 1) := by decide +kernel
theorem dX9_change_3 : decode cX9_change 3 = .ok (.aload_n 0, 1) := by decide +kernel
theorem dX9_change_4 : decode cX9_change 4 = .ok (.iload_n 1, 1) := by decide +kernel
theorem dX9_change_5 : decode cX9_change 5 = .ok (.invokevirtual 292, 3) := by decide +kernel
theorem dX9_change_8 : decode cX9_change 8 = .ok (.istore_n 3, 1) := by decide +kernel
theorem dX9_change_9 : decode cX9_change 9 = .ok (.iconst 0, 1) := by decide +kernel
theorem dX9_change_10 : decode cX9_change 10 = .ok (.istore 4, 2) := by decide +kernel
theorem dX9_change_12 : decode cX9_change 12 = .ok (.iload 4, 2) := by decide +kernel
theorem dX9_change_14 : decode cX9_change 14 = .ok (.aload_n 0, 1) := by decide +kernel
theorem dX9_change_15 : decode cX9_change 15 = .ok (.getfield 111, 3) := by decide +kernel
theorem dX9_change_18 : decode cX9_change 18 = .ok (.if_icmp .ge 71, 3) := by decide +kernel
theorem dX9_change_21 : decode cX9_change 21 = .ok (.iload 4, 2) := by decide +kernel
theorem dX9_change_23 : decode cX9_change 23 = .ok (.iconst 1, 1) := by decide +kernel
theorem dX9_change_24 : decode cX9_change 24 = .ok (.iadd, 1) := by decide +kernel
theorem dX9_change_25 : decode cX9_change 25 = .ok (.istore 5, 2) := by decide +kernel
theorem dX9_change_27 : decode cX9_change 27 = .ok (.iload 5, 2) := by decide +kernel
theorem dX9_change_29 : decode cX9_change 29 = .ok (.aload_n 0, 1) := by decide +kernel
theorem dX9_change_30 : decode cX9_change 30 = .ok (.getfield 111, 3) := by decide +kernel
theorem dX9_change_33 : decode cX9_change 33 = .ok (.if_icmp .ge 50, 3) := by decide +kernel
theorem dX9_change_36 : decode cX9_change 36 = .ok (.aload_n 0, 1) := by decide +kernel
theorem dX9_change_37 : decode cX9_change 37 = .ok (.iload 4, 2) := by decide +kernel
theorem dX9_change_39 : decode cX9_change 39 = .ok (.iload 5, 2) := by decide +kernel
theorem dX9_change_41 : decode cX9_change 41 = .ok (.invokevirtual 289, 3) := by decide +kernel
theorem dX9_change_44 : decode cX9_change 44 = .ok (.aload_n 0, 1) := by decide +kernel
theorem dX9_change_45 : decode cX9_change 45 = .ok (.iload_n 1, 1) := by decide +kernel
theorem dX9_change_46 : decode cX9_change 46 = .ok (.invokevirtual 292, 3) := by decide +kernel
theorem dX9_change_49 : decode cX9_change 49 = .ok (.istore 6, 2) := by decide +kernel
theorem dX9_change_51 : decode cX9_change 51 = .ok (.aload_n 0, 1) := by decide +kernel
theorem dX9_change_52 : decode cX9_change 52 = .ok (.iload 4, 2) := by decide +kernel
theorem dX9_change_54 : decode cX9_change 54 = .ok (.iload 5, 2) := by decide +kernel
theorem dX9_change_56 : decode cX9_change 56 = .ok (.invokevirtual 289, 3) := by decide +kernel
theorem dX9_change_59 : decode cX9_change 59 = .ok (.iload 6, 2) := by decide +kernel
theorem dX9_change_61 : decode cX9_change 61 = .ok (.iload_n 3, 1) := by decide +kernel
theorem dX9_change_62 : decode cX9_change 62 = .ok (.if_icmp .le 15, 3) := by decide +kernel
theorem dX9_change_65 : decode cX9_change 65 = .ok (.bipush 10, 2) := by decide +kernel
theorem dX9_change_67 : decode cX9_change 67 = .ok (.iload 4, 2) := by decide +kernel
theorem dX9_change_69 : decode cX9_change 69 = .ok (.imul, 1) := by decide +kernel
theorem dX9_change_70 : decode cX9_change 70 = .ok (.iload 5, 2) := by decide +kernel
theorem dX9_change_72 : decode cX9_change 72 = .ok (.iadd, 1) := by decide +kernel
theorem dX9_change_73 : decode cX9_change 73 = .ok (.istore_n 2, 1) := by decide +kernel
theorem dX9_change_74 : decode cX9_change 74 = .ok (.iload 6, 2) := by decide +kernel
theorem dX9_change_76 : decode cX9_change 76 = .ok (.istore_n 3, 1) := by decide +kernel
theorem dX9_change_77 : decode cX9_change 77 = .ok (.iinc 5 1, 3) := by decide +kernel
theorem dX9_change_80 : decode cX9_change 80 = .ok (.goto (-53), 3) := by decide +kernel
theorem dX9_change_83 : decode cX9_change 83 = .ok (.iinc 4 1, 3) := by decide +kernel
theorem dX9_change_86 : decode cX9_change 86 = .ok (.goto (-74), 3) := by decide +kernel
theorem dX9_change_89 : decode cX9_change 89 = .ok (.iload_n 2, 1) := by decide +kernel
theorem dX9_change_90 : decode cX9_change 90 = .ok (.ireturn, 1) := by decide +kernel
theorem dX9_isCalm_0 : decode cX9_isCalm 0 = .ok (.aload_n 0, 1) := by decide +kernel
theorem dX9_isCalm_1 : decode cX9_isCalm 1 = .ok (.iload_n 1, 1) := by decide +kernel
theorem dX9_isCalm_2 : decode cX9_isCalm 2 = .ok (.invokevirtual 282, 3) := by decide +kernel
theorem dX9_isCalm_5 : decode cX9_isCalm 5 = .ok (.aload_n 0, 1) := by decide +kernel
theorem dX9_isCalm_6 : decode cX9_isCalm 6 = .ok (.aload_n 0, 1) := by decide +kernel
theorem dX9_isCalm_7 : decode cX9_isCalm 7 = .ok (.getfield 64, 3) := by decide +kernel
theorem dX9_isCalm_10 : decode cX9_isCalm 10 = .ok (.iload_n 2, 1) := by decide +kernel
theorem dX9_isCalm_11 : decode cX9_isCalm 11 = .ok (.iload_n 3, 1) := by decide +kernel
theorem dX9_isCalm_12 : decode cX9_isCalm 12 = .ok (.invokevirtual 142, 3) := by decide +kernel
theorem dX9_isCalm_15 : decode cX9_isCalm 15 = .ok (.iconst 0, 1) := by decide +kernel
theorem dX9_isCalm_16 : decode cX9_isCalm 16 = .ok (.istore 4, 2) := by decide +kernel
theorem dX9_isCalm_18 : decode cX9_isCalm 18 = .ok (.aload_n 0, 1) := by decide +kernel
theorem dX9_isCalm_19 : decode cX9_isCalm 19 = .ok (.getfield 127, 3) := by decide +kernel
theorem dX9_isCalm_22 : decode cX9_isCalm 22 = .ok (.istore 5, 2) := by decide +kernel
theorem dX9_isCalm_24 : decode cX9_isCalm 24 = .ok (.iload 5, 2) := by decide +kernel
theorem dX9_isCalm_26 : decode cX9_isCalm 26 = .ok (.bipush 24, 2) := by decide +kernel
theorem dX9_isCalm_28 : decode cX9_isCalm 28 = .ok (.if_icmp .ge 32, 3) := by decide +kernel
theorem dX9_isCalm_31 : decode cX9_isCalm 31 = .ok (.aload_n 0, 1) := by decide +kernel
theorem dX9_isCalm_32 : decode cX9_isCalm 32 = .ok (.aload_n 0, 1) := by decide +kernel
theorem dX9_isCalm_33 : decode cX9_isCalm 33 = .ok (.getfield 64, 3) := by decide +kernel
theorem dX9_isCalm_36 : decode cX9_isCalm 36 = .ok (.iload 5, 2) := by decide +kernel
theorem dX9_isCalm_38 : decode cX9_isCalm 38 = .ok (.iload_n 2, 1) := by decide +kernel
theorem dX9_isCalm_39 : decode cX9_isCalm 39 = .ok (.iload_n 3, 1) := by decide +kernel
theorem dX9_isCalm_40 : decode cX9_isCalm 40 = .ok (.invokevirtual 271, 3) := by decide +kernel
theorem dX9_isCalm_43 : decode cX9_isCalm 43 = .ok (.iload 4, 2) := by decide +kernel
theorem dX9_isCalm_45 : decode cX9_isCalm 45 = .ok (.aload_n 0, 1) := by decide +kernel
theorem dX9_isCalm_46 : decode cX9_isCalm 46 = .ok (.getfield 49, 3) := by decide +kernel
theorem dX9_isCalm_49 : decode cX9_isCalm 49 = .ok (.iload_n 2, 1) := by decide +kernel
theorem dX9_isCalm_50 : decode cX9_isCalm 50 = .ok (.iaload, 1) := by decide +kernel
theorem dX9_isCalm_51 : decode cX9_isCalm 51 = .ok (.iadd, 1) := by decide +kernel
theorem dX9_isCalm_52 : decode cX9_isCalm 52 = .ok (.istore 4, 2) := by decide +kernel
theorem dX9_isCalm_54 : decode cX9_isCalm 54 = .ok (.iinc 5 1, 3) := by decide +kernel
theorem dX9_isCalm_57 : decode cX9_isCalm 57 = .ok (.goto (-33), 3) := by decide +kernel
theorem dX9_isCalm_60 : decode cX9_isCalm 60 = .ok (.iload 4, 2) := by decide +kernel
theorem dX9_isCalm_62 : decode cX9_isCalm 62 = .ok (.ifCond .ne 7, 3) := by decide +kernel
theorem dX9_isCalm_65 : decode cX9_isCalm 65 = .ok (.iconst 1, 1) := by decide +kernel
theorem dX9_isCalm_66 : decode cX9_isCalm 66 = .ok (.goto 4, 3) := by decide +kernel
theorem dX9_isCalm_69 : decode cX9_isCalm 69 = .ok (.iconst 0, 1) := by decide +kernel
theorem dX9_isCalm_70 : decode cX9_isCalm 70 = .ok (.ireturn, 1) := by decide +kernel
theorem dX9_wider_0 : decode cX9_wider 0 = .ok (.aload_n 0, 1) := by decide +kernel
theorem dX9_wider_1 : decode cX9_wider 1 = .ok (.iload_n 2, 1) := by decide +kernel
theorem dX9_wider_2 : decode cX9_wider 2 = .ok (.invokevirtual 168, 3) := by decide +kernel
theorem dX9_wider_5 : decode cX9_wider 5 = .ok (.ifCond .ne 5, 3) := by decide +kernel
theorem dX9_wider_8 : decode cX9_wider 8 = .ok (.iconst (-1), 1) := by decide +kernel
theorem dX9_wider_9 : decode cX9_wider 9 = .ok (.ireturn, 1) := by decide +kernel
theorem dX9_wider_10 : decode cX9_wider 10 = .ok (.iconst 0, 1) := by decide +kernel
theorem dX9_wider_11 : decode cX9_wider 11 = .ok (.istore_n 3, 1) := by decide +kernel
theorem dX9_wider_12 : decode cX9_wider 12 = .ok (.iload_n 3, 1) := by decide +kernel
theorem dX9_wider_13 : decode cX9_wider 13 = .ok (.bipush 10, 2) := by decide +kernel
theorem dX9_wider_15 : decode cX9_wider 15 = .ok (.if_icmp .ge 21, 3) := by decide +kernel
theorem dX9_wider_18 : decode cX9_wider 18 = .ok (.aload_n 0, 1) := by decide +kernel
theorem dX9_wider_19 : decode cX9_wider 19 = .ok (.iload_n 1, 1) := by decide +kernel
theorem dX9_wider_20 : decode cX9_wider 20 = .ok (.iload_n 2, 1) := by decide +kernel
theorem dX9_wider_21 : decode cX9_wider 21 = .ok (.iload_n 3, 1) := by decide +kernel
theorem dX9_wider_22 : decode cX9_wider 22 = .ok (.invokevirtual 295, 3) := by decide +kernel
theorem dX9_wider_25 : decode cX9_wider 25 = .ok (.ifCond .eq 5, 3) := by decide +kernel
theorem dX9_wider_28 : decode cX9_wider 28 = .ok (.iload_n 3, 1) := by decide +kernel
theorem dX9_wider_29 : decode cX9_wider 29 = .ok (.ireturn, 1) := by decide +kernel
theorem dX9_wider_30 : decode cX9_wider 30 = .ok (.iinc 3 1, 3) := by decide +kernel
theorem dX9_wider_33 : decode cX9_wider 33 = .ok (.goto (-21), 3) := by decide +kernel
theorem dX9_wider_36 : decode cX9_wider 36 = .ok (.bipush (-2), 2) := by decide +kernel
theorem dX9_wider_38 : decode cX9_wider 38 = .ok (.ireturn, 1) := by decide +kernel
theorem dX9_least_0 : decode cX9_least 0 = .ok (.iload_n 0, 1) := by decide +kernel
theorem dX9_least_1 : decode cX9_least 1 = .ok (.iload_n 1, 1) := by decide +kernel
theorem dX9_least_2 : decode cX9_least 2 = .ok (.if_icmp .ge 7, 3) := by decide +kernel
theorem dX9_least_5 : decode cX9_least 5 = .ok (.iload_n 0, 1) := by decide +kernel
theorem dX9_least_6 : decode cX9_least 6 = .ok (.goto 4, 3) := by decide +kernel
theorem dX9_least_9 : decode cX9_least 9 = .ok (.iload_n 1, 1) := by decide +kernel
theorem dX9_least_10 : decode cX9_least 10 = .ok (.ireturn, 1) := by decide +kernel
theorem dX9_both_0 : decode cX9_both 0 = .ok (.aload_n 0, 1) := by decide +kernel
theorem dX9_both_1 : decode cX9_both 1 = .ok (.iload_n 1, 1) := by decide +kernel
theorem dX9_both_2 : decode cX9_both 2 = .ok (.invokevirtual 168, 3) := by decide +kernel
theorem dX9_both_5 : decode cX9_both 5 = .ok (.ifCond .eq 13, 3) := by decide +kernel
theorem dX9_both_8 : decode cX9_both 8 = .ok (.iload_n 2, 1) := by decide +kernel
theorem dX9_both_9 : decode cX9_both 9 = .ok (.i2l, 1) := by decide +kernel
theorem dX9_both_10 : decode cX9_both 10 = .ok (.lconst 0, 1) := by decide +kernel
theorem dX9_both_11 : decode cX9_both 11 = .ok (.lconst 1, 1) := by decide +kernel
theorem dX9_both_12 : decode cX9_both 12 = .ok (.invokestatic 114, 3) := by decide +kernel
theorem dX9_both_15 : decode cX9_both 15 = .ok (.ifCond .ne 5, 3) := by decide +kernel
theorem dX9_both_18 : decode cX9_both 18 = .ok (.iconst (-1), 1) := by decide +kernel
theorem dX9_both_19 : decode cX9_both 19 = .ok (.ireturn, 1) := by decide +kernel
theorem dX9_both_20 : decode cX9_both 20 = .ok (.iconst (-1), 1) := by decide +kernel
theorem dX9_both_21 : decode cX9_both 21 = .ok (.istore_n 3, 1) := by decide +kernel
theorem dX9_both_22 : decode cX9_both 22 = .ok (.iconst 0, 1) := by decide +kernel
theorem dX9_both_23 : decode cX9_both 23 = .ok (.istore 4, 2) := by decide +kernel
theorem dX9_both_25 : decode cX9_both 25 = .ok (.iconst 0, 1) := by decide +kernel
theorem dX9_both_26 : decode cX9_both 26 = .ok (.istore 5, 2) := by decide +kernel
theorem dX9_both_28 : decode cX9_both 28 = .ok (.iconst 0, 1) := by decide +kernel
theorem dX9_both_29 : decode cX9_both 29 = .ok (.istore 6, 2) := by decide +kernel
theorem dX9_both_31 : decode cX9_both 31 = .ok (.iload 6, 2) := by decide +kernel
theorem dX9_both_33 : decode cX9_both 33 = .ok (.aload_n 0, 1) := by decide +kernel
theorem dX9_both_34 : decode cX9_both 34 = .ok (.getfield 22, 3) := by decide +kernel
theorem dX9_both_37 : decode cX9_both 37 = .ok (.iload_n 1, 1) := by decide +kernel
theorem dX9_both_38 : decode cX9_both 38 = .ok (.iaload, 1) := by decide +kernel
theorem dX9_both_39 : decode cX9_both 39 = .ok (.if_icmp .gt 99, 3) := by decide +kernel
theorem dX9_both_42 : decode cX9_both 42 = .ok (.iload 6, 2) := by decide +kernel
theorem dX9_both_44 : decode cX9_both 44 = .ok (.aload_n 0, 1) := by decide +kernel
theorem dX9_both_45 : decode cX9_both 45 = .ok (.getfield 9, 3) := by decide +kernel
theorem dX9_both_48 : decode cX9_both 48 = .ok (.iload_n 1, 1) := by decide +kernel
theorem dX9_both_49 : decode cX9_both 49 = .ok (.iaload, 1) := by decide +kernel
theorem dX9_both_50 : decode cX9_both 50 = .ok (.invokestatic 299, 3) := by decide +kernel
theorem dX9_both_53 : decode cX9_both 53 = .ok (.istore 7, 2) := by decide +kernel
theorem dX9_both_55 : decode cX9_both 55 = .ok (.aload_n 0, 1) := by decide +kernel
theorem dX9_both_56 : decode cX9_both 56 = .ok (.getfield 22, 3) := by decide +kernel
theorem dX9_both_59 : decode cX9_both 59 = .ok (.iload_n 1, 1) := by decide +kernel
theorem dX9_both_60 : decode cX9_both 60 = .ok (.iaload, 1) := by decide +kernel
theorem dX9_both_61 : decode cX9_both 61 = .ok (.iload 6, 2) := by decide +kernel
theorem dX9_both_63 : decode cX9_both 63 = .ok (.isub, 1) := by decide +kernel
theorem dX9_both_64 : decode cX9_both 64 = .ok (.aload_n 0, 1) := by decide +kernel
theorem dX9_both_65 : decode cX9_both 65 = .ok (.getfield 9, 3) := by decide +kernel
theorem dX9_both_68 : decode cX9_both 68 = .ok (.iload_n 1, 1) := by decide +kernel
theorem dX9_both_69 : decode cX9_both 69 = .ok (.iconst 1, 1) := by decide +kernel
theorem dX9_both_70 : decode cX9_both 70 = .ok (.iadd, 1) := by decide +kernel
theorem dX9_both_71 : decode cX9_both 71 = .ok (.iaload, 1) := by decide +kernel
theorem dX9_both_72 : decode cX9_both 72 = .ok (.invokestatic 299, 3) := by decide +kernel
theorem dX9_both_75 : decode cX9_both 75 = .ok (.istore 8, 2) := by decide +kernel
theorem dX9_both_77 : decode cX9_both 77 = .ok (.iload_n 3, 1) := by decide +kernel
theorem dX9_both_78 : decode cX9_both 78 = .ok (.ifCond .lt 35, 3) := by decide +kernel
theorem dX9_both_81 : decode cX9_both 81 = .ok (.iload 7, 2) := by decide +kernel
theorem dX9_both_83 : decode cX9_both 83 = .ok (.iload 8, 2) := by decide +kernel
theorem dX9_both_85 : decode cX9_both 85 = .ok (.iadd, 1) := by decide +kernel
theorem dX9_both_86 : decode cX9_both 86 = .ok (.iload 4, 2) := by decide +kernel
theorem dX9_both_88 : decode cX9_both 88 = .ok (.if_icmp .gt 25, 3) := by decide +kernel
theorem dX9_both_91 : decode cX9_both 91 = .ok (.iload 7, 2) := by decide +kernel
theorem dX9_both_93 : decode cX9_both 93 = .ok (.iload 8, 2) := by decide +kernel
theorem dX9_both_95 : decode cX9_both 95 = .ok (.iadd, 1) := by decide +kernel
theorem dX9_both_96 : decode cX9_both 96 = .ok (.iload 4, 2) := by decide +kernel
theorem dX9_both_98 : decode cX9_both 98 = .ok (.if_icmp .ne 34, 3) := by decide +kernel
theorem dX9_both_101 : decode cX9_both 101 = .ok (.iload 7, 2) := by decide +kernel
theorem dX9_both_103 : decode cX9_both 103 = .ok (.iload 8, 2) := by decide +kernel
theorem dX9_both_105 : decode cX9_both 105 = .ok (.invokestatic 299, 3) := by decide +kernel
theorem dX9_both_108 : decode cX9_both 108 = .ok (.iload 5, 2) := by decide +kernel
theorem dX9_both_110 : decode cX9_both 110 = .ok (.if_icmp .le 22, 3) := by decide +kernel
theorem dX9_both_113 : decode cX9_both 113 = .ok (.iload 6, 2) := by decide +kernel
theorem dX9_both_115 : decode cX9_both 115 = .ok (.istore_n 3, 1) := by decide +kernel
theorem dX9_both_116 : decode cX9_both 116 = .ok (.iload 7, 2) := by decide +kernel
theorem dX9_both_118 : decode cX9_both 118 = .ok (.iload 8, 2) := by decide +kernel
theorem dX9_both_120 : decode cX9_both 120 = .ok (.iadd, 1) := by decide +kernel
theorem dX9_both_121 : decode cX9_both 121 = .ok (.istore 4, 2) := by decide +kernel
theorem dX9_both_123 : decode cX9_both 123 = .ok (.iload 7, 2) := by decide +kernel
theorem dX9_both_125 : decode cX9_both 125 = .ok (.iload 8, 2) := by decide +kernel
theorem dX9_both_127 : decode cX9_both 127 = .ok (.invokestatic 299, 3) := by decide +kernel
theorem dX9_both_130 : decode cX9_both 130 = .ok (.istore 5, 2) := by decide +kernel
theorem dX9_both_132 : decode cX9_both 132 = .ok (.iinc 6 1, 3) := by decide +kernel
theorem dX9_both_135 : decode cX9_both 135 = .ok (.goto (-104), 3) := by decide +kernel
theorem dX9_both_138 : decode cX9_both 138 = .ok (.iload_n 2, 1) := by decide +kernel
theorem dX9_both_139 : decode cX9_both 139 = .ok (.ifCond .ne 7, 3) := by decide +kernel
theorem dX9_both_142 : decode cX9_both 142 = .ok (.iload_n 3, 1) := by decide +kernel
theorem dX9_both_143 : decode cX9_both 143 = .ok (.goto 5, 3) := by decide +kernel
theorem dX9_both_146 : decode cX9_both 146 = .ok (.iload 4, 2) := by decide +kernel
theorem dX9_both_148 : decode cX9_both 148 = .ok (.ireturn, 1) := by decide +kernel
theorem dX9_sells_0 : decode cX9_sells 0 = .ok (.iload_n 1, 1) := by decide +kernel
theorem dX9_sells_1 : decode cX9_sells 1 = .ok (.iload_n 2, 1) := by decide +kernel
theorem dX9_sells_2 : decode cX9_sells 2 = .ok (.iadd, 1) := by decide +kernel
theorem dX9_sells_3 : decode cX9_sells 3 = .ok (.istore_n 3, 1) := by decide +kernel
theorem dX9_sells_4 : decode cX9_sells 4 = .ok (.iload_n 1, 1) := by decide +kernel
theorem dX9_sells_5 : decode cX9_sells 5 = .ok (.iconst 1, 1) := by decide +kernel
theorem dX9_sells_6 : decode cX9_sells 6 = .ok (.iadd, 1) := by decide +kernel
theorem dX9_sells_7 : decode cX9_sells 7 = .ok (.iload_n 2, 1) := by decide +kernel
theorem dX9_sells_8 : decode cX9_sells 8 = .ok (.isub, 1) := by decide +kernel
theorem dX9_sells_9 : decode cX9_sells 9 = .ok (.istore 4, 2) := by decide +kernel
theorem dX9_sells_11 : decode cX9_sells 11 = .ok (.aload_n 0, 1) := by decide +kernel
theorem dX9_sells_12 : decode cX9_sells 12 = .ok (.getfield 9, 3) := by decide +kernel
theorem dX9_sells_15 : decode cX9_sells 15 = .ok (.bipush 32, 2) := by decide +kernel
theorem dX9_sells_17 : decode cX9_sells 17 = .ok (.iload 4, 2) := by decide +kernel
theorem dX9_sells_19 : decode cX9_sells 19 = .ok (.iadd, 1) := by decide +kernel
theorem dX9_sells_20 : decode cX9_sells 20 = .ok (.iaload, 1) := by decide +kernel
theorem dX9_sells_21 : decode cX9_sells 21 = .ok (.aload_n 0, 1) := by decide +kernel
theorem dX9_sells_22 : decode cX9_sells 22 = .ok (.getfield 9, 3) := by decide +kernel
theorem dX9_sells_25 : decode cX9_sells 25 = .ok (.bipush 24, 2) := by decide +kernel
theorem dX9_sells_27 : decode cX9_sells 27 = .ok (.iload_n 3, 1) := by decide +kernel
theorem dX9_sells_28 : decode cX9_sells 28 = .ok (.iadd, 1) := by decide +kernel
theorem dX9_sells_29 : decode cX9_sells 29 = .ok (.iaload, 1) := by decide +kernel
theorem dX9_sells_30 : decode cX9_sells 30 = .ok (.if_icmp .gt 5, 3) := by decide +kernel
theorem dX9_sells_33 : decode cX9_sells 33 = .ok (.iconst 0, 1) := by decide +kernel
theorem dX9_sells_34 : decode cX9_sells 34 = .ok (.ireturn, 1) := by decide +kernel
theorem dX9_sells_35 : decode cX9_sells 35 = .ok (.aload_n 0, 1) := by decide +kernel
theorem dX9_sells_36 : decode cX9_sells 36 = .ok (.getfield 9, 3) := by decide +kernel
theorem dX9_sells_39 : decode cX9_sells 39 = .ok (.iload 4, 2) := by decide +kernel
theorem dX9_sells_41 : decode cX9_sells 41 = .ok (.iaload, 1) := by decide +kernel
theorem dX9_sells_42 : decode cX9_sells 42 = .ok (.aload_n 0, 1) := by decide +kernel
theorem dX9_sells_43 : decode cX9_sells 43 = .ok (.getfield 28, 3) := by decide +kernel
theorem dX9_sells_46 : decode cX9_sells 46 = .ok (.iconst 2, 1) := by decide +kernel
theorem dX9_sells_47 : decode cX9_sells 47 = .ok (.iload_n 1, 1) := by decide +kernel
theorem dX9_sells_48 : decode cX9_sells 48 = .ok (.imul, 1) := by decide +kernel
theorem dX9_sells_49 : decode cX9_sells 49 = .ok (.iconst 1, 1) := by decide +kernel
theorem dX9_sells_50 : decode cX9_sells 50 = .ok (.iadd, 1) := by decide +kernel
theorem dX9_sells_51 : decode cX9_sells 51 = .ok (.iload_n 2, 1) := by decide +kernel
theorem dX9_sells_52 : decode cX9_sells 52 = .ok (.isub, 1) := by decide +kernel
theorem dX9_sells_53 : decode cX9_sells 53 = .ok (.iaload, 1) := by decide +kernel
theorem dX9_sells_54 : decode cX9_sells 54 = .ok (.isub, 1) := by decide +kernel
theorem dX9_sells_55 : decode cX9_sells 55 = .ok (.istore 5, 2) := by decide +kernel
theorem dX9_sells_57 : decode cX9_sells 57 = .ok (.iload 5, 2) := by decide +kernel
theorem dX9_sells_59 : decode cX9_sells 59 = .ok (.ifCond .ge 7, 3) := by decide +kernel
theorem dX9_sells_62 : decode cX9_sells 62 = .ok (.iconst 0, 1) := by decide +kernel
theorem dX9_sells_63 : decode cX9_sells 63 = .ok (.goto 18, 3) := by decide +kernel
theorem dX9_sells_66 : decode cX9_sells 66 = .ok (.aload_n 0, 1) := by decide +kernel
theorem dX9_sells_67 : decode cX9_sells 67 = .ok (.getfield 28, 3) := by decide +kernel
theorem dX9_sells_70 : decode cX9_sells 70 = .ok (.iconst 2, 1) := by decide +kernel
theorem dX9_sells_71 : decode cX9_sells 71 = .ok (.iload_n 1, 1) := by decide +kernel
theorem dX9_sells_72 : decode cX9_sells 72 = .ok (.imul, 1) := by decide +kernel
theorem dX9_sells_73 : decode cX9_sells 73 = .ok (.iload_n 2, 1) := by decide +kernel
theorem dX9_sells_74 : decode cX9_sells 74 = .ok (.iadd, 1) := by decide +kernel
theorem dX9_sells_75 : decode cX9_sells 75 = .ok (.iaload, 1) := by decide +kernel
theorem dX9_sells_76 : decode cX9_sells 76 = .ok (.iload 5, 2) := by decide +kernel
theorem dX9_sells_78 : decode cX9_sells 78 = .ok (.invokestatic 299, 3) := by decide +kernel
theorem dX9_sells_81 : decode cX9_sells 81 = .ok (.ireturn, 1) := by decide +kernel
theorem dX9_looksAt_0 : decode cX9_looksAt 0 = .ok (.aload_n 0, 1) := by decide +kernel
theorem dX9_looksAt_1 : decode cX9_looksAt 1 = .ok (.iconst 0, 1) := by decide +kernel
theorem dX9_looksAt_2 : decode cX9_looksAt 2 = .ok (.putfield 302, 3) := by decide +kernel
theorem dX9_looksAt_5 : decode cX9_looksAt 5 = .ok (.aload_n 0, 1) := by decide +kernel
theorem dX9_looksAt_6 : decode cX9_looksAt 6 = .ok (.aload_n 0, 1) := by decide +kernel
theorem dX9_looksAt_7 : decode cX9_looksAt 7 = .ok (.iload_n 1, 1) := by decide +kernel
theorem dX9_looksAt_8 : decode cX9_looksAt 8 = .ok (.iconst 0, 1) := by decide +kernel
theorem dX9_looksAt_9 : decode cX9_looksAt 9 = .ok (.invokevirtual 305, 3) := by decide +kernel
theorem dX9_looksAt_12 : decode cX9_looksAt 12 = .ok (.putfield 308, 3) := by decide +kernel
theorem dX9_looksAt_15 : decode cX9_looksAt 15 = .ok (.aload_n 0, 1) := by decide +kernel
theorem dX9_looksAt_16 : decode cX9_looksAt 16 = .ok (.getfield 308, 3) := by decide +kernel
theorem dX9_looksAt_19 : decode cX9_looksAt 19 = .ok (.ifCond .ne 18, 3) := by decide +kernel
theorem dX9_looksAt_22 : decode cX9_looksAt 22 = .ok (.aload_n 0, 1) := by decide +kernel
theorem dX9_looksAt_23 : decode cX9_looksAt 23 = .ok (.iconst 1, 1) := by decide +kernel
theorem dX9_looksAt_24 : decode cX9_looksAt 24 = .ok (.putfield 302, 3) := by decide +kernel
theorem dX9_looksAt_27 : decode cX9_looksAt 27 = .ok (.aload_n 0, 1) := by decide +kernel
theorem dX9_looksAt_28 : decode cX9_looksAt 28 = .ok (.aload_n 0, 1) := by decide +kernel
theorem dX9_looksAt_29 : decode cX9_looksAt 29 = .ok (.iload_n 1, 1) := by decide +kernel
theorem dX9_looksAt_30 : decode cX9_looksAt 30 = .ok (.iconst 1, 1) := by decide +kernel
theorem dX9_looksAt_31 : decode cX9_looksAt 31 = .ok (.invokevirtual 305, 3) := by decide +kernel
theorem dX9_looksAt_34 : decode cX9_looksAt 34 = .ok (.putfield 308, 3) := by decide +kernel
theorem dX9_looksAt_37 : decode cX9_looksAt 37 = .ok (.return_, 1) := by decide +kernel
theorem dX9_deals_0 : decode cX9_deals 0 = .ok (.aload_n 0, 1) := by decide +kernel
theorem dX9_deals_1 : decode cX9_deals 1 = .ok (.iload_n 1, 1) := by decide +kernel
theorem dX9_deals_2 : decode cX9_deals 2 = .ok (.invokevirtual 168, 3) := by decide +kernel
theorem dX9_deals_5 : decode cX9_deals 5 = .ok (.ifCond .eq 15, 3) := by decide +kernel
theorem dX9_deals_8 : decode cX9_deals 8 = .ok (.iload_n 2, 1) := by decide +kernel
theorem dX9_deals_9 : decode cX9_deals 9 = .ok (.i2l, 1) := by decide +kernel
theorem dX9_deals_10 : decode cX9_deals 10 = .ok (.lconst 0, 1) := by decide +kernel
theorem dX9_deals_11 : decode cX9_deals 11 = .ok (.ldc2_w 277, 3) := by decide +kernel
theorem dX9_deals_14 : decode cX9_deals 14 = .ok (.invokestatic 114, 3) := by decide +kernel
theorem dX9_deals_17 : decode cX9_deals 17 = .ok (.ifCond .ne 6, 3) := by decide +kernel
theorem dX9_deals_20 : decode cX9_deals 20 = .ok (.ldc 159, 2) := by decide +kernel
theorem dX9_deals_22 : decode cX9_deals 22 = .ok (.ireturn, 1) := by decide +kernel
theorem dX9_deals_23 : decode cX9_deals 23 = .ok (.aload_n 0, 1) := by decide +kernel
theorem dX9_deals_24 : decode cX9_deals 24 = .ok (.iload_n 1, 1) := by decide +kernel
theorem dX9_deals_25 : decode cX9_deals 25 = .ok (.invokevirtual 311, 3) := by decide +kernel
theorem dX9_deals_28 : decode cX9_deals 28 = .ok (.aload_n 0, 1) := by decide +kernel
theorem dX9_deals_29 : decode cX9_deals 29 = .ok (.getfield 9, 3) := by decide +kernel
theorem dX9_deals_32 : decode cX9_deals 32 = .ok (.bipush 24, 2) := by decide +kernel
theorem dX9_deals_34 : decode cX9_deals 34 = .ok (.iload_n 1, 1) := by decide +kernel
theorem dX9_deals_35 : decode cX9_deals 35 = .ok (.iadd, 1) := by decide +kernel
theorem dX9_deals_36 : decode cX9_deals 36 = .ok (.aload_n 0, 1) := by decide +kernel
theorem dX9_deals_37 : decode cX9_deals 37 = .ok (.getfield 302, 3) := by decide +kernel
theorem dX9_deals_40 : decode cX9_deals 40 = .ok (.iadd, 1) := by decide +kernel
theorem dX9_deals_41 : decode cX9_deals 41 = .ok (.iaload, 1) := by decide +kernel
theorem dX9_deals_42 : decode cX9_deals 42 = .ok (.istore_n 3, 1) := by decide +kernel
theorem dX9_deals_43 : decode cX9_deals 43 = .ok (.aload_n 0, 1) := by decide +kernel
theorem dX9_deals_44 : decode cX9_deals 44 = .ok (.getfield 9, 3) := by decide +kernel
theorem dX9_deals_47 : decode cX9_deals 47 = .ok (.bipush 32, 2) := by decide +kernel
theorem dX9_deals_49 : decode cX9_deals 49 = .ok (.iload_n 1, 1) := by decide +kernel
theorem dX9_deals_50 : decode cX9_deals 50 = .ok (.iadd, 1) := by decide +kernel
theorem dX9_deals_51 : decode cX9_deals 51 = .ok (.iconst 1, 1) := by decide +kernel
theorem dX9_deals_52 : decode cX9_deals 52 = .ok (.iadd, 1) := by decide +kernel
theorem dX9_deals_53 : decode cX9_deals 53 = .ok (.aload_n 0, 1) := by decide +kernel
theorem dX9_deals_54 : decode cX9_deals 54 = .ok (.getfield 302, 3) := by decide +kernel
theorem dX9_deals_57 : decode cX9_deals 57 = .ok (.isub, 1) := by decide +kernel
theorem dX9_deals_58 : decode cX9_deals 58 = .ok (.iaload, 1) := by decide +kernel
theorem dX9_deals_59 : decode cX9_deals 59 = .ok (.istore 4, 2) := by decide +kernel
theorem dX9_deals_61 : decode cX9_deals 61 = .ok (.aload_n 0, 1) := by decide +kernel
theorem dX9_deals_62 : decode cX9_deals 62 = .ok (.getfield 308, 3) := by decide +kernel
theorem dX9_deals_65 : decode cX9_deals 65 = .ok (.iload_n 3, 1) := by decide +kernel
theorem dX9_deals_66 : decode cX9_deals 66 = .ok (.iload 4, 2) := by decide +kernel
theorem dX9_deals_68 : decode cX9_deals 68 = .ok (.iadd, 1) := by decide +kernel
theorem dX9_deals_69 : decode cX9_deals 69 = .ok (.iconst 2, 1) := by decide +kernel
theorem dX9_deals_70 : decode cX9_deals 70 = .ok (.idiv, 1) := by decide +kernel
theorem dX9_deals_71 : decode cX9_deals 71 = .ok (.imul, 1) := by decide +kernel
theorem dX9_deals_72 : decode cX9_deals 72 = .ok (.istore 5, 2) := by decide +kernel
theorem dX9_deals_74 : decode cX9_deals 74 = .ok (.iload_n 2, 1) := by decide +kernel
theorem dX9_deals_75 : decode cX9_deals 75 = .ok (.ifCond .ne 15, 3) := by decide +kernel
theorem dX9_deals_78 : decode cX9_deals 78 = .ok (.aload_n 0, 1) := by decide +kernel
theorem dX9_deals_79 : decode cX9_deals 79 = .ok (.getfield 308, 3) := by decide +kernel
theorem dX9_deals_82 : decode cX9_deals 82 = .ok (.iload 4, 2) := by decide +kernel
theorem dX9_deals_84 : decode cX9_deals 84 = .ok (.iload_n 3, 1) := by decide +kernel
theorem dX9_deals_85 : decode cX9_deals 85 = .ok (.isub, 1) := by decide +kernel
theorem dX9_deals_86 : decode cX9_deals 86 = .ok (.imul, 1) := by decide +kernel
theorem dX9_deals_87 : decode cX9_deals 87 = .ok (.goto 30, 3) := by decide +kernel
theorem dX9_deals_90 : decode cX9_deals 90 = .ok (.iload_n 2, 1) := by decide +kernel
theorem dX9_deals_91 : decode cX9_deals 91 = .ok (.iconst 1, 1) := by decide +kernel
theorem dX9_deals_92 : decode cX9_deals 92 = .ok (.if_icmp .ne 10, 3) := by decide +kernel
theorem dX9_deals_95 : decode cX9_deals 95 = .ok (.aload_n 0, 1) := by decide +kernel
theorem dX9_deals_96 : decode cX9_deals 96 = .ok (.getfield 308, 3) := by decide +kernel
theorem dX9_deals_99 : decode cX9_deals 99 = .ok (.goto 18, 3) := by decide +kernel
theorem dX9_deals_102 : decode cX9_deals 102 = .ok (.aload_n 0, 1) := by decide +kernel
theorem dX9_deals_103 : decode cX9_deals 103 = .ok (.getfield 302, 3) := by decide +kernel
theorem dX9_deals_106 : decode cX9_deals 106 = .ok (.ifCond .ne 8, 3) := by decide +kernel
theorem dX9_deals_109 : decode cX9_deals 109 = .ok (.iload 5, 2) := by decide +kernel
theorem dX9_deals_111 : decode cX9_deals 111 = .ok (.goto 6, 3) := by decide +kernel
theorem dX9_deals_114 : decode cX9_deals 114 = .ok (.iload 5, 2) := by decide +kernel
theorem dX9_deals_116 : decode cX9_deals 116 = .ok (.ineg, 1) := by decide +kernel
theorem dX9_deals_117 : decode cX9_deals 117 = .ok (.ireturn, 1) := by decide +kernel
theorem dX9_sell_0 : decode cX9_sell 0 = .ok (.aload_n 0, 1) := by decide +kernel
theorem dX9_sell_1 : decode cX9_sell 1 = .ok (.iload_n 1, 1) := by decide +kernel
theorem dX9_sell_2 : decode cX9_sell 2 = .ok (.invokevirtual 168, 3) := by decide +kernel
theorem dX9_sell_5 : decode cX9_sell 5 = .ok (.ifCond .ne 5, 3) := by decide +kernel
theorem dX9_sell_8 : decode cX9_sell 8 = .ok (.iconst (-1), 1) := by decide +kernel
theorem dX9_sell_9 : decode cX9_sell 9 = .ok (.ireturn, 1) := by decide +kernel
theorem dX9_sell_10 : decode cX9_sell 10 = .ok (.aload_n 0, 1) := by decide +kernel
theorem dX9_sell_11 : decode cX9_sell 11 = .ok (.iload_n 1, 1) := by decide +kernel
theorem dX9_sell_12 : decode cX9_sell 12 = .ok (.invokevirtual 311, 3) := by decide +kernel
theorem dX9_sell_15 : decode cX9_sell 15 = .ok (.aload_n 0, 1) := by decide +kernel
theorem dX9_sell_16 : decode cX9_sell 16 = .ok (.getfield 28, 3) := by decide +kernel
theorem dX9_sell_19 : decode cX9_sell 19 = .ok (.iconst 2, 1) := by decide +kernel
theorem dX9_sell_20 : decode cX9_sell 20 = .ok (.iload_n 1, 1) := by decide +kernel
theorem dX9_sell_21 : decode cX9_sell 21 = .ok (.imul, 1) := by decide +kernel
theorem dX9_sell_22 : decode cX9_sell 22 = .ok (.aload_n 0, 1) := by decide +kernel
theorem dX9_sell_23 : decode cX9_sell 23 = .ok (.getfield 302, 3) := by decide +kernel
theorem dX9_sell_26 : decode cX9_sell 26 = .ok (.iadd, 1) := by decide +kernel
theorem dX9_sell_27 : decode cX9_sell 27 = .ok (.dup2, 1) := by decide +kernel
theorem dX9_sell_28 : decode cX9_sell 28 = .ok (.iaload, 1) := by decide +kernel
theorem dX9_sell_29 : decode cX9_sell 29 = .ok (.aload_n 0, 1) := by decide +kernel
theorem dX9_sell_30 : decode cX9_sell 30 = .ok (.getfield 308, 3) := by decide +kernel
theorem dX9_sell_33 : decode cX9_sell 33 = .ok (.isub, 1) := by decide +kernel
theorem dX9_sell_34 : decode cX9_sell 34 = .ok (.iastore, 1) := by decide +kernel
theorem dX9_sell_35 : decode cX9_sell 35 = .ok (.aload_n 0, 1) := by decide +kernel
theorem dX9_sell_36 : decode cX9_sell 36 = .ok (.getfield 28, 3) := by decide +kernel
theorem dX9_sell_39 : decode cX9_sell 39 = .ok (.iconst 2, 1) := by decide +kernel
theorem dX9_sell_40 : decode cX9_sell 40 = .ok (.iload_n 1, 1) := by decide +kernel
theorem dX9_sell_41 : decode cX9_sell 41 = .ok (.imul, 1) := by decide +kernel
theorem dX9_sell_42 : decode cX9_sell 42 = .ok (.iconst 1, 1) := by decide +kernel
theorem dX9_sell_43 : decode cX9_sell 43 = .ok (.iadd, 1) := by decide +kernel
theorem dX9_sell_44 : decode cX9_sell 44 = .ok (.aload_n 0, 1) := by decide +kernel
theorem dX9_sell_45 : decode cX9_sell 45 = .ok (.getfield 302, 3) := by decide +kernel
theorem dX9_sell_48 : decode cX9_sell 48 = .ok (.isub, 1) := by decide +kernel
theorem dX9_sell_49 : decode cX9_sell 49 = .ok (.dup2, 1) := by decide +kernel
theorem dX9_sell_50 : decode cX9_sell 50 = .ok (.iaload, 1) := by decide +kernel
theorem dX9_sell_51 : decode cX9_sell 51 = .ok (.aload_n 0, 1) := by decide +kernel
theorem dX9_sell_52 : decode cX9_sell 52 = .ok (.getfield 308, 3) := by decide +kernel
theorem dX9_sell_55 : decode cX9_sell 55 = .ok (.iadd, 1) := by decide +kernel
theorem dX9_sell_56 : decode cX9_sell 56 = .ok (.iastore, 1) := by decide +kernel
theorem dX9_sell_57 : decode cX9_sell 57 = .ok (.aload_n 0, 1) := by decide +kernel
theorem dX9_sell_58 : decode cX9_sell 58 = .ok (.getfield 308, 3) := by decide +kernel
theorem dX9_sell_61 : decode cX9_sell 61 = .ok (.ireturn, 1) := by decide +kernel
theorem dX9_copies_0 : decode cX9_copies 0 = .ok (.iconst 0, 1) := by decide +kernel
theorem dX9_copies_1 : decode cX9_copies 1 = .ok (.istore_n 2, 1) := by decide +kernel
theorem dX9_copies_2 : decode cX9_copies 2 = .ok (.iload_n 2, 1) := by decide +kernel
theorem dX9_copies_3 : decode cX9_copies 3 = .ok (.aload_n 0, 1) := by decide +kernel
theorem dX9_copies_4 : decode cX9_copies 4 = .ok (.arraylength, 1) := by decide +kernel
theorem dX9_copies_5 : decode cX9_copies 5 = .ok (.if_icmp .ge 15, 3) := by decide +kernel
theorem dX9_copies_8 : decode cX9_copies 8 = .ok (.aload_n 1, 1) := by decide +kernel
theorem dX9_copies_9 : decode cX9_copies 9 = .ok (.iload_n 2, 1) := by decide +kernel
theorem dX9_copies_10 : decode cX9_copies 10 = .ok (.aload_n 0, 1) := by decide +kernel
theorem dX9_copies_11 : decode cX9_copies 11 = .ok (.iload_n 2, 1) := by decide +kernel
theorem dX9_copies_12 : decode cX9_copies 12 = .ok (.iaload, 1) := by decide +kernel
theorem dX9_copies_13 : decode cX9_copies 13 = .ok (.iastore, 1) := by decide +kernel
theorem dX9_copies_14 : decode cX9_copies 14 = .ok (.iinc 2 1, 3) := by decide +kernel
theorem dX9_copies_17 : decode cX9_copies 17 = .ok (.goto (-15), 3) := by decide +kernel
theorem dX9_copies_20 : decode cX9_copies 20 = .ok (.return_, 1) := by decide +kernel
theorem dX9_image_0 : decode cX9_image 0 = .ok (.aload_n 0, 1) := by decide +kernel
theorem dX9_image_1 : decode cX9_image 1 = .ok (.iconst 1, 1) := by decide +kernel
theorem dX9_image_2 : decode cX9_image 2 = .ok (.putfield 314, 3) := by decide +kernel
theorem dX9_image_5 : decode cX9_image 5 = .ok (.aload_n 0, 1) := by decide +kernel
theorem dX9_image_6 : decode cX9_image 6 = .ok (.aload_n 0, 1) := by decide +kernel
theorem dX9_image_7 : decode cX9_image 7 = .ok (.getfield 127, 3) := by decide +kernel
theorem dX9_image_10 : decode cX9_image 10 = .ok (.putfield 317, 3) := by decide +kernel
theorem dX9_image_13 : decode cX9_image 13 = .ok (.aload_n 0, 1) := by decide +kernel
theorem dX9_image_14 : decode cX9_image 14 = .ok (.aload_n 0, 1) := by decide +kernel
theorem dX9_image_15 : decode cX9_image 15 = .ok (.getfield 274, 3) := by decide +kernel
theorem dX9_image_18 : decode cX9_image 18 = .ok (.putfield 320, 3) := by decide +kernel
theorem dX9_image_21 : decode cX9_image 21 = .ok (.aload_n 0, 1) := by decide +kernel
theorem dX9_image_22 : decode cX9_image 22 = .ok (.getfield 28, 3) := by decide +kernel
theorem dX9_image_25 : decode cX9_image 25 = .ok (.aload_n 0, 1) := by decide +kernel
theorem dX9_image_26 : decode cX9_image 26 = .ok (.getfield 67, 3) := by decide +kernel
theorem dX9_image_29 : decode cX9_image 29 = .ok (.invokestatic 323, 3) := by decide +kernel
theorem dX9_image_32 : decode cX9_image 32 = .ok (.aload_n 0, 1) := by decide +kernel
theorem dX9_image_33 : decode cX9_image 33 = .ok (.getfield 31, 3) := by decide +kernel
theorem dX9_image_36 : decode cX9_image 36 = .ok (.aload_n 0, 1) := by decide +kernel
theorem dX9_image_37 : decode cX9_image 37 = .ok (.getfield 70, 3) := by decide +kernel
theorem dX9_image_40 : decode cX9_image 40 = .ok (.invokestatic 323, 3) := by decide +kernel
theorem dX9_image_43 : decode cX9_image 43 = .ok (.aload_n 0, 1) := by decide +kernel
theorem dX9_image_44 : decode cX9_image 44 = .ok (.getfield 34, 3) := by decide +kernel
theorem dX9_image_47 : decode cX9_image 47 = .ok (.aload_n 0, 1) := by decide +kernel
theorem dX9_image_48 : decode cX9_image 48 = .ok (.getfield 73, 3) := by decide +kernel
theorem dX9_image_51 : decode cX9_image 51 = .ok (.invokestatic 323, 3) := by decide +kernel
theorem dX9_image_54 : decode cX9_image 54 = .ok (.aload_n 0, 1) := by decide +kernel
theorem dX9_image_55 : decode cX9_image 55 = .ok (.getfield 58, 3) := by decide +kernel
theorem dX9_image_58 : decode cX9_image 58 = .ok (.aload_n 0, 1) := by decide +kernel
theorem dX9_image_59 : decode cX9_image 59 = .ok (.getfield 76, 3) := by decide +kernel
theorem dX9_image_62 : decode cX9_image 62 = .ok (.invokestatic 323, 3) := by decide +kernel
theorem dX9_image_65 : decode cX9_image 65 = .ok (.aload_n 0, 1) := by decide +kernel
theorem dX9_image_66 : decode cX9_image 66 = .ok (.getfield 61, 3) := by decide +kernel
theorem dX9_image_69 : decode cX9_image 69 = .ok (.aload_n 0, 1) := by decide +kernel
theorem dX9_image_70 : decode cX9_image 70 = .ok (.getfield 79, 3) := by decide +kernel
theorem dX9_image_73 : decode cX9_image 73 = .ok (.invokestatic 323, 3) := by decide +kernel
theorem dX9_image_76 : decode cX9_image 76 = .ok (.aload_n 0, 1) := by decide +kernel
theorem dX9_image_77 : decode cX9_image 77 = .ok (.getfield 127, 3) := by decide +kernel
theorem dX9_image_80 : decode cX9_image 80 = .ok (.ireturn, 1) := by decide +kernel
theorem dX9_back_0 : decode cX9_back 0 = .ok (.aload_n 0, 1) := by decide +kernel
theorem dX9_back_1 : decode cX9_back 1 = .ok (.getfield 314, 3) := by decide +kernel
theorem dX9_back_4 : decode cX9_back 4 = .ok (.ifCond .ne 6, 3) := by decide +kernel
theorem dX9_back_7 : decode cX9_back 7 = .ok (.bipush (-5), 2) := by decide +kernel
theorem dX9_back_9 : decode cX9_back 9 = .ok (.ireturn, 1) := by decide +kernel
theorem dX9_back_10 : decode cX9_back 10 = .ok (.aload_n 0, 1) := by decide +kernel
theorem dX9_back_11 : decode cX9_back 11 = .ok (.aload_n 0, 1) := by decide +kernel
theorem dX9_back_12 : decode cX9_back 12 = .ok (.getfield 317, 3) := by decide +kernel
theorem dX9_back_15 : decode cX9_back 15 = .ok (.putfield 127, 3) := by decide +kernel
theorem dX9_back_18 : decode cX9_back 18 = .ok (.aload_n 0, 1) := by decide +kernel
theorem dX9_back_19 : decode cX9_back 19 = .ok (.aload_n 0, 1) := by decide +kernel
theorem dX9_back_20 : decode cX9_back 20 = .ok (.getfield 320, 3) := by decide +kernel
theorem dX9_back_23 : decode cX9_back 23 = .ok (.putfield 274, 3) := by decide +kernel
theorem dX9_back_26 : decode cX9_back 26 = .ok (.aload_n 0, 1) := by decide +kernel
theorem dX9_back_27 : decode cX9_back 27 = .ok (.getfield 67, 3) := by decide +kernel
theorem dX9_back_30 : decode cX9_back 30 = .ok (.aload_n 0, 1) := by decide +kernel
theorem dX9_back_31 : decode cX9_back 31 = .ok (.getfield 28, 3) := by decide +kernel
theorem dX9_back_34 : decode cX9_back 34 = .ok (.invokestatic 323, 3) := by decide +kernel
theorem dX9_back_37 : decode cX9_back 37 = .ok (.aload_n 0, 1) := by decide +kernel
theorem dX9_back_38 : decode cX9_back 38 = .ok (.getfield 70, 3) := by decide +kernel
theorem dX9_back_41 : decode cX9_back 41 = .ok (.aload_n 0, 1) := by decide +kernel
theorem dX9_back_42 : decode cX9_back 42 = .ok (.getfield 31, 3) := by decide +kernel
theorem dX9_back_45 : decode cX9_back 45 = .ok (.invokestatic 323, 3) := by decide +kernel
theorem dX9_back_48 : decode cX9_back 48 = .ok (.aload_n 0, 1) := by decide +kernel
theorem dX9_back_49 : decode cX9_back 49 = .ok (.getfield 73, 3) := by decide +kernel
theorem dX9_back_52 : decode cX9_back 52 = .ok (.aload_n 0, 1) := by decide +kernel
theorem dX9_back_53 : decode cX9_back 53 = .ok (.getfield 34, 3) := by decide +kernel
theorem dX9_back_56 : decode cX9_back 56 = .ok (.invokestatic 323, 3) := by decide +kernel
theorem dX9_back_59 : decode cX9_back 59 = .ok (.aload_n 0, 1) := by decide +kernel
theorem dX9_back_60 : decode cX9_back 60 = .ok (.getfield 76, 3) := by decide +kernel
theorem dX9_back_63 : decode cX9_back 63 = .ok (.aload_n 0, 1) := by decide +kernel
theorem dX9_back_64 : decode cX9_back 64 = .ok (.getfield 58, 3) := by decide +kernel
theorem dX9_back_67 : decode cX9_back 67 = .ok (.invokestatic 323, 3) := by decide +kernel
theorem dX9_back_70 : decode cX9_back 70 = .ok (.aload_n 0, 1) := by decide +kernel
theorem dX9_back_71 : decode cX9_back 71 = .ok (.getfield 79, 3) := by decide +kernel
theorem dX9_back_74 : decode cX9_back 74 = .ok (.aload_n 0, 1) := by decide +kernel
theorem dX9_back_75 : decode cX9_back 75 = .ok (.getfield 61, 3) := by decide +kernel
theorem dX9_back_78 : decode cX9_back 78 = .ok (.invokestatic 323, 3) := by decide +kernel
theorem dX9_back_81 : decode cX9_back 81 = .ok (.iconst 0, 1) := by decide +kernel
theorem dX9_back_82 : decode cX9_back 82 = .ok (.istore_n 1, 1) := by decide +kernel
theorem dX9_back_83 : decode cX9_back 83 = .ok (.iload_n 1, 1) := by decide +kernel
theorem dX9_back_84 : decode cX9_back 84 = .ok (.bipush 7, 2) := by decide +kernel
theorem dX9_back_86 : decode cX9_back 86 = .ok (.if_icmp .ge 24, 3) := by decide +kernel
theorem dX9_back_89 : decode cX9_back 89 = .ok (.aload_n 0, 1) := by decide +kernel
theorem dX9_back_90 : decode cX9_back 90 = .ok (.aload_n 0, 1) := by decide +kernel
theorem dX9_back_91 : decode cX9_back 91 = .ok (.getfield 28, 3) := by decide +kernel
theorem dX9_back_94 : decode cX9_back 94 = .ok (.iload_n 1, 1) := by decide +kernel
theorem dX9_back_95 : decode cX9_back 95 = .ok (.aload_n 0, 1) := by decide +kernel
theorem dX9_back_96 : decode cX9_back 96 = .ok (.getfield 22, 3) := by decide +kernel
theorem dX9_back_99 : decode cX9_back 99 = .ok (.iload_n 1, 1) := by decide +kernel
theorem dX9_back_100 : decode cX9_back 100 = .ok (.iaload, 1) := by decide +kernel
theorem dX9_back_101 : decode cX9_back 101 = .ok (.invokevirtual 142, 3) := by decide +kernel
theorem dX9_back_104 : decode cX9_back 104 = .ok (.iinc 1 1, 3) := by decide +kernel
theorem dX9_back_107 : decode cX9_back 107 = .ok (.goto (-24), 3) := by decide +kernel
theorem dX9_back_110 : decode cX9_back 110 = .ok (.aload_n 0, 1) := by decide +kernel
theorem dX9_back_111 : decode cX9_back 111 = .ok (.getfield 127, 3) := by decide +kernel
theorem dX9_back_114 : decode cX9_back 114 = .ok (.ireturn, 1) := by decide +kernel
theorem dX9_isBody_0 : decode cX9_isBody 0 = .ok (.iload_n 1, 1) := by decide +kernel
theorem dX9_isBody_1 : decode cX9_isBody 1 = .ok (.i2l, 1) := by decide +kernel
theorem dX9_isBody_2 : decode cX9_isBody 2 = .ok (.lconst 0, 1) := by decide +kernel
theorem dX9_isBody_3 : decode cX9_isBody 3 = .ok (.aload_n 0, 1) := by decide +kernel
theorem dX9_isBody_4 : decode cX9_isBody 4 = .ok (.getfield 327, 3) := by decide +kernel
theorem dX9_isBody_7 : decode cX9_isBody 7 = .ok (.iconst 1, 1) := by decide +kernel
theorem dX9_isBody_8 : decode cX9_isBody 8 = .ok (.isub, 1) := by decide +kernel
theorem dX9_isBody_9 : decode cX9_isBody 9 = .ok (.i2l, 1) := by decide +kernel
theorem dX9_isBody_10 : decode cX9_isBody 10 = .ok (.invokestatic 114, 3) := by decide +kernel
theorem dX9_isBody_13 : decode cX9_isBody 13 = .ok (.ireturn, 1) := by decide +kernel
theorem dX9_kindOf_0 : decode cX9_kindOf 0 = .ok (.aload_n 0, 1) := by decide +kernel
theorem dX9_kindOf_1 : decode cX9_kindOf 1 = .ok (.getfield 82, 3) := by decide +kernel
theorem dX9_kindOf_4 : decode cX9_kindOf 4 = .ok (.iload_n 1, 1) := by decide +kernel
theorem dX9_kindOf_5 : decode cX9_kindOf 5 = .ok (.iaload, 1) := by decide +kernel
theorem dX9_kindOf_6 : decode cX9_kindOf 6 = .ok (.ireturn, 1) := by decide +kernel
theorem dX9_body_0 : decode cX9_body 0 = .ok (.iload_n 1, 1) := by decide +kernel
theorem dX9_body_1 : decode cX9_body 1 = .ok (.i2l, 1) := by decide +kernel
theorem dX9_body_2 : decode cX9_body 2 = .ok (.lconst 0, 1) := by decide +kernel
theorem dX9_body_3 : decode cX9_body 3 = .ok (.ldc2_w 330, 3) := by decide +kernel
theorem dX9_body_6 : decode cX9_body 6 = .ok (.invokestatic 114, 3) := by decide +kernel
theorem dX9_body_9 : decode cX9_body 9 = .ok (.ifCond .ne 5, 3) := by decide +kernel
theorem dX9_body_12 : decode cX9_body 12 = .ok (.iconst (-1), 1) := by decide +kernel
theorem dX9_body_13 : decode cX9_body 13 = .ok (.ireturn, 1) := by decide +kernel
theorem dX9_body_14 : decode cX9_body 14 = .ok (.aload_n 0, 1) := by decide +kernel
theorem dX9_body_15 : decode cX9_body 15 = .ok (.getfield 327, 3) := by decide +kernel
theorem dX9_body_18 : decode cX9_body 18 = .ok (.bipush 50, 2) := by decide +kernel
theorem dX9_body_20 : decode cX9_body 20 = .ok (.if_icmp .ne 6, 3) := by decide +kernel
theorem dX9_body_23 : decode cX9_body 23 = .ok (.bipush (-3), 2) := by decide +kernel
theorem dX9_body_25 : decode cX9_body 25 = .ok (.ireturn, 1) := by decide +kernel
theorem dX9_body_26 : decode cX9_body 26 = .ok (.aload_n 0, 1) := by decide +kernel
theorem dX9_body_27 : decode cX9_body 27 = .ok (.getfield 82, 3) := by decide +kernel
theorem dX9_body_30 : decode cX9_body 30 = .ok (.aload_n 0, 1) := by decide +kernel
theorem dX9_body_31 : decode cX9_body 31 = .ok (.getfield 327, 3) := by decide +kernel
theorem dX9_body_34 : decode cX9_body 34 = .ok (.iload_n 1, 1) := by decide +kernel
theorem dX9_body_35 : decode cX9_body 35 = .ok (.iastore, 1) := by decide +kernel
theorem dX9_body_36 : decode cX9_body 36 = .ok (.aload_n 0, 1) := by decide +kernel
theorem dX9_body_37 : decode cX9_body 37 = .ok (.dup, 1) := by decide +kernel
theorem dX9_body_38 : decode cX9_body 38 = .ok (.getfield 327, 3) := by decide +kernel
theorem dX9_body_41 : decode cX9_body 41 = .ok (.iconst 1, 1) := by decide +kernel
theorem dX9_body_42 : decode cX9_body 42 = .ok (.iadd, 1) := by decide +kernel
theorem dX9_body_43 : decode cX9_body 43 = .ok (.putfield 327, 3) := by decide +kernel
theorem dX9_body_46 : decode cX9_body 46 = .ok (.aload_n 0, 1) := by decide +kernel
theorem dX9_body_47 : decode cX9_body 47 = .ok (.getfield 327, 3) := by decide +kernel
theorem dX9_body_50 : decode cX9_body 50 = .ok (.iconst 1, 1) := by decide +kernel
theorem dX9_body_51 : decode cX9_body 51 = .ok (.isub, 1) := by decide +kernel
theorem dX9_body_52 : decode cX9_body 52 = .ok (.ireturn, 1) := by decide +kernel
theorem dX9_above_0 : decode cX9_above 0 = .ok (.iload_n 0, 1) := by decide +kernel
theorem dX9_above_1 : decode cX9_above 1 = .ok (.iconst 3, 1) := by decide +kernel
theorem dX9_above_2 : decode cX9_above 2 = .ok (.if_icmp .ne 7, 3) := by decide +kernel
theorem dX9_above_5 : decode cX9_above 5 = .ok (.iconst 2, 1) := by decide +kernel
theorem dX9_above_6 : decode cX9_above 6 = .ok (.goto 32, 3) := by decide +kernel
theorem dX9_above_9 : decode cX9_above 9 = .ok (.iload_n 0, 1) := by decide +kernel
theorem dX9_above_10 : decode cX9_above 10 = .ok (.iconst 4, 1) := by decide +kernel
theorem dX9_above_11 : decode cX9_above 11 = .ok (.if_icmp .ne 7, 3) := by decide +kernel
theorem dX9_above_14 : decode cX9_above 14 = .ok (.iconst 1, 1) := by decide +kernel
theorem dX9_above_15 : decode cX9_above 15 = .ok (.goto 23, 3) := by decide +kernel
theorem dX9_above_18 : decode cX9_above 18 = .ok (.iload_n 0, 1) := by decide +kernel
theorem dX9_above_19 : decode cX9_above 19 = .ok (.iconst 5, 1) := by decide +kernel
theorem dX9_above_20 : decode cX9_above 20 = .ok (.if_icmp .ne 7, 3) := by decide +kernel
theorem dX9_above_23 : decode cX9_above 23 = .ok (.iconst 3, 1) := by decide +kernel
theorem dX9_above_24 : decode cX9_above 24 = .ok (.goto 14, 3) := by decide +kernel
theorem dX9_above_27 : decode cX9_above 27 = .ok (.iload_n 0, 1) := by decide +kernel
theorem dX9_above_28 : decode cX9_above 28 = .ok (.bipush 7, 2) := by decide +kernel
theorem dX9_above_30 : decode cX9_above 30 = .ok (.if_icmp .ne 7, 3) := by decide +kernel
theorem dX9_above_33 : decode cX9_above 33 = .ok (.iconst 4, 1) := by decide +kernel
theorem dX9_above_34 : decode cX9_above 34 = .ok (.goto 4, 3) := by decide +kernel
theorem dX9_above_37 : decode cX9_above 37 = .ok (.iconst 0, 1) := by decide +kernel
theorem dX9_above_38 : decode cX9_above 38 = .ok (.ireturn, 1) := by decide +kernel
theorem dX9_begins_0 : decode cX9_begins 0 = .ok (.aload_n 0, 1) := by decide +kernel
theorem dX9_begins_1 : decode cX9_begins 1 = .ok (.getfield 332, 3) := by decide +kernel
theorem dX9_begins_4 : decode cX9_begins 4 = .ok (.bipush 24, 2) := by decide +kernel
theorem dX9_begins_6 : decode cX9_begins 6 = .ok (.if_icmp .ge 13, 3) := by decide +kernel
theorem dX9_begins_9 : decode cX9_begins 9 = .ok (.aload_n 0, 1) := by decide +kernel
theorem dX9_begins_10 : decode cX9_begins 10 = .ok (.getfield 85, 3) := by decide +kernel
theorem dX9_begins_13 : decode cX9_begins 13 = .ok (.aload_n 0, 1) := by decide +kernel
theorem dX9_begins_14 : decode cX9_begins 14 = .ok (.getfield 332, 3) := by decide +kernel
theorem dX9_begins_17 : decode cX9_begins 17 = .ok (.iload_n 1, 1) := by decide +kernel
theorem dX9_begins_18 : decode cX9_begins 18 = .ok (.iastore, 1) := by decide +kernel
theorem dX9_begins_19 : decode cX9_begins 19 = .ok (.aload_n 0, 1) := by decide +kernel
theorem dX9_begins_20 : decode cX9_begins 20 = .ok (.dup, 1) := by decide +kernel
theorem dX9_begins_21 : decode cX9_begins 21 = .ok (.getfield 332, 3) := by decide +kernel
theorem dX9_begins_24 : decode cX9_begins 24 = .ok (.iconst 1, 1) := by decide +kernel
theorem dX9_begins_25 : decode cX9_begins 25 = .ok (.iadd, 1) := by decide +kernel
theorem dX9_begins_26 : decode cX9_begins 26 = .ok (.putfield 332, 3) := by decide +kernel
theorem dX9_begins_29 : decode cX9_begins 29 = .ok (.return_, 1) := by decide +kernel
theorem dX9_holdsAs_0 : decode cX9_holdsAs 0 = .ok (.iload_n 1, 1) := by decide +kernel
theorem dX9_holdsAs_1 : decode cX9_holdsAs 1 = .ok (.iconst 1, 1) := by decide +kernel
theorem dX9_holdsAs_2 : decode cX9_holdsAs 2 = .ok (.if_icmp .eq 14, 3) := by decide +kernel
theorem dX9_holdsAs_5 : decode cX9_holdsAs 5 = .ok (.iload_n 1, 1) := by decide +kernel
theorem dX9_holdsAs_6 : decode cX9_holdsAs 6 = .ok (.iconst 4, 1) := by decide +kernel
theorem dX9_holdsAs_7 : decode cX9_holdsAs 7 = .ok (.if_icmp .eq 9, 3) := by decide +kernel
theorem dX9_holdsAs_10 : decode cX9_holdsAs 10 = .ok (.iload_n 1, 1) := by decide +kernel
theorem dX9_holdsAs_11 : decode cX9_holdsAs 11 = .ok (.bipush 7, 2) := by decide +kernel
theorem dX9_holdsAs_13 : decode cX9_holdsAs 13 = .ok (.if_icmp .ne 18, 3) := by decide +kernel
theorem dX9_holdsAs_16 : decode cX9_holdsAs 16 = .ok (.aload_n 0, 1) := by decide +kernel
theorem dX9_holdsAs_17 : decode cX9_holdsAs 17 = .ok (.bipush 20, 2) := by decide +kernel
theorem dX9_holdsAs_19 : decode cX9_holdsAs 19 = .ok (.invokevirtual 335, 3) := by decide +kernel
theorem dX9_holdsAs_22 : decode cX9_holdsAs 22 = .ok (.aload_n 0, 1) := by decide +kernel
theorem dX9_holdsAs_23 : decode cX9_holdsAs 23 = .ok (.iconst 0, 1) := by decide +kernel
theorem dX9_holdsAs_24 : decode cX9_holdsAs 24 = .ok (.iload_n 2, 1) := by decide +kernel
theorem dX9_holdsAs_25 : decode cX9_holdsAs 25 = .ok (.invokevirtual 338, 3) := by decide +kernel
theorem dX9_holdsAs_28 : decode cX9_holdsAs 28 = .ok (.iconst 3, 1) := by decide +kernel
theorem dX9_holdsAs_29 : decode cX9_holdsAs 29 = .ok (.iadd, 1) := by decide +kernel
theorem dX9_holdsAs_30 : decode cX9_holdsAs 30 = .ok (.ireturn, 1) := by decide +kernel
theorem dX9_holdsAs_31 : decode cX9_holdsAs 31 = .ok (.iload_n 1, 1) := by decide +kernel
theorem dX9_holdsAs_32 : decode cX9_holdsAs 32 = .ok (.bipush 6, 2) := by decide +kernel
theorem dX9_holdsAs_34 : decode cX9_holdsAs 34 = .ok (.if_icmp .ne 18, 3) := by decide +kernel
theorem dX9_holdsAs_37 : decode cX9_holdsAs 37 = .ok (.aload_n 0, 1) := by decide +kernel
theorem dX9_holdsAs_38 : decode cX9_holdsAs 38 = .ok (.bipush 70, 2) := by decide +kernel
theorem dX9_holdsAs_40 : decode cX9_holdsAs 40 = .ok (.invokevirtual 335, 3) := by decide +kernel
theorem dX9_holdsAs_43 : decode cX9_holdsAs 43 = .ok (.aload_n 0, 1) := by decide +kernel
theorem dX9_holdsAs_44 : decode cX9_holdsAs 44 = .ok (.iconst 0, 1) := by decide +kernel
theorem dX9_holdsAs_45 : decode cX9_holdsAs 45 = .ok (.iload_n 2, 1) := by decide +kernel
theorem dX9_holdsAs_46 : decode cX9_holdsAs 46 = .ok (.invokevirtual 338, 3) := by decide +kernel
theorem dX9_holdsAs_49 : decode cX9_holdsAs 49 = .ok (.iconst 2, 1) := by decide +kernel
theorem dX9_holdsAs_50 : decode cX9_holdsAs 50 = .ok (.imul, 1) := by decide +kernel
theorem dX9_holdsAs_51 : decode cX9_holdsAs 51 = .ok (.ireturn, 1) := by decide +kernel
theorem dX9_holdsAs_52 : decode cX9_holdsAs 52 = .ok (.aload_n 0, 1) := by decide +kernel
theorem dX9_holdsAs_53 : decode cX9_holdsAs 53 = .ok (.iconst 1, 1) := by decide +kernel
theorem dX9_holdsAs_54 : decode cX9_holdsAs 54 = .ok (.invokevirtual 335, 3) := by decide +kernel
theorem dX9_holdsAs_57 : decode cX9_holdsAs 57 = .ok (.iload_n 2, 1) := by decide +kernel
theorem dX9_holdsAs_58 : decode cX9_holdsAs 58 = .ok (.aload_n 0, 1) := by decide +kernel
theorem dX9_holdsAs_59 : decode cX9_holdsAs 59 = .ok (.getfield 341, 3) := by decide +kernel
theorem dX9_holdsAs_62 : decode cX9_holdsAs 62 = .ok (.iadd, 1) := by decide +kernel
theorem dX9_holdsAs_63 : decode cX9_holdsAs 63 = .ok (.ireturn, 1) := by decide +kernel
theorem dX9_pushesAs_0 : decode cX9_pushesAs 0 = .ok (.iload_n 1, 1) := by decide +kernel
theorem dX9_pushesAs_1 : decode cX9_pushesAs 1 = .ok (.iconst 3, 1) := by decide +kernel
theorem dX9_pushesAs_2 : decode cX9_pushesAs 2 = .ok (.if_icmp .eq 8, 3) := by decide +kernel
theorem dX9_pushesAs_5 : decode cX9_pushesAs 5 = .ok (.iload_n 1, 1) := by decide +kernel
theorem dX9_pushesAs_6 : decode cX9_pushesAs 6 = .ok (.iconst 5, 1) := by decide +kernel
theorem dX9_pushesAs_7 : decode cX9_pushesAs 7 = .ok (.if_icmp .ne 18, 3) := by decide +kernel
theorem dX9_pushesAs_10 : decode cX9_pushesAs 10 = .ok (.aload_n 0, 1) := by decide +kernel
theorem dX9_pushesAs_11 : decode cX9_pushesAs 11 = .ok (.bipush 41, 2) := by decide +kernel
theorem dX9_pushesAs_13 : decode cX9_pushesAs 13 = .ok (.invokevirtual 335, 3) := by decide +kernel
theorem dX9_pushesAs_16 : decode cX9_pushesAs 16 = .ok (.aload_n 0, 1) := by decide +kernel
theorem dX9_pushesAs_17 : decode cX9_pushesAs 17 = .ok (.iconst 2, 1) := by decide +kernel
theorem dX9_pushesAs_18 : decode cX9_pushesAs 18 = .ok (.iload_n 2, 1) := by decide +kernel
theorem dX9_pushesAs_19 : decode cX9_pushesAs 19 = .ok (.iconst 1, 1) := by decide +kernel
theorem dX9_pushesAs_20 : decode cX9_pushesAs 20 = .ok (.iadd, 1) := by decide +kernel
theorem dX9_pushesAs_21 : decode cX9_pushesAs 21 = .ok (.invokevirtual 344, 3) := by decide +kernel
theorem dX9_pushesAs_24 : decode cX9_pushesAs 24 = .ok (.ireturn, 1) := by decide +kernel
theorem dX9_pushesAs_25 : decode cX9_pushesAs 25 = .ok (.iload_n 1, 1) := by decide +kernel
theorem dX9_pushesAs_26 : decode cX9_pushesAs 26 = .ok (.iconst 2, 1) := by decide +kernel
theorem dX9_pushesAs_27 : decode cX9_pushesAs 27 = .ok (.if_icmp .ne 17, 3) := by decide +kernel
theorem dX9_pushesAs_30 : decode cX9_pushesAs 30 = .ok (.aload_n 0, 1) := by decide +kernel
theorem dX9_pushesAs_31 : decode cX9_pushesAs 31 = .ok (.bipush 30, 2) := by decide +kernel
theorem dX9_pushesAs_33 : decode cX9_pushesAs 33 = .ok (.invokevirtual 335, 3) := by decide +kernel
theorem dX9_pushesAs_36 : decode cX9_pushesAs 36 = .ok (.aload_n 0, 1) := by decide +kernel
theorem dX9_pushesAs_37 : decode cX9_pushesAs 37 = .ok (.iconst 0, 1) := by decide +kernel
theorem dX9_pushesAs_38 : decode cX9_pushesAs 38 = .ok (.iload_n 2, 1) := by decide +kernel
theorem dX9_pushesAs_39 : decode cX9_pushesAs 39 = .ok (.invokevirtual 344, 3) := by decide +kernel
theorem dX9_pushesAs_42 : decode cX9_pushesAs 42 = .ok (.ineg, 1) := by decide +kernel
theorem dX9_pushesAs_43 : decode cX9_pushesAs 43 = .ok (.ireturn, 1) := by decide +kernel
theorem dX9_pushesAs_44 : decode cX9_pushesAs 44 = .ok (.iload_n 1, 1) := by decide +kernel
theorem dX9_pushesAs_45 : decode cX9_pushesAs 45 = .ok (.bipush 7, 2) := by decide +kernel
theorem dX9_pushesAs_47 : decode cX9_pushesAs 47 = .ok (.if_icmp .ne 28, 3) := by decide +kernel
theorem dX9_pushesAs_50 : decode cX9_pushesAs 50 = .ok (.aload_n 0, 1) := by decide +kernel
theorem dX9_pushesAs_51 : decode cX9_pushesAs 51 = .ok (.bipush 80, 2) := by decide +kernel
theorem dX9_pushesAs_53 : decode cX9_pushesAs 53 = .ok (.invokevirtual 335, 3) := by decide +kernel
theorem dX9_pushesAs_56 : decode cX9_pushesAs 56 = .ok (.aload_n 0, 1) := by decide +kernel
theorem dX9_pushesAs_57 : decode cX9_pushesAs 57 = .ok (.iconst 4, 1) := by decide +kernel
theorem dX9_pushesAs_58 : decode cX9_pushesAs 58 = .ok (.iload_n 2, 1) := by decide +kernel
theorem dX9_pushesAs_59 : decode cX9_pushesAs 59 = .ok (.invokevirtual 344, 3) := by decide +kernel
theorem dX9_pushesAs_62 : decode cX9_pushesAs 62 = .ok (.istore_n 3, 1) := by decide +kernel
theorem dX9_pushesAs_63 : decode cX9_pushesAs 63 = .ok (.iload_n 3, 1) := by decide +kernel
theorem dX9_pushesAs_64 : decode cX9_pushesAs 64 = .ok (.aload_n 0, 1) := by decide +kernel
theorem dX9_pushesAs_65 : decode cX9_pushesAs 65 = .ok (.aload_n 0, 1) := by decide +kernel
theorem dX9_pushesAs_66 : decode cX9_pushesAs 66 = .ok (.getfield 347, 3) := by decide +kernel
theorem dX9_pushesAs_69 : decode cX9_pushesAs 69 = .ok (.iconst 2, 1) := by decide +kernel
theorem dX9_pushesAs_70 : decode cX9_pushesAs 70 = .ok (.invokevirtual 350, 3) := by decide +kernel
theorem dX9_pushesAs_73 : decode cX9_pushesAs 73 = .ok (.iadd, 1) := by decide +kernel
theorem dX9_pushesAs_74 : decode cX9_pushesAs 74 = .ok (.ireturn, 1) := by decide +kernel
theorem dX9_pushesAs_75 : decode cX9_pushesAs 75 = .ok (.aload_n 0, 1) := by decide +kernel
theorem dX9_pushesAs_76 : decode cX9_pushesAs 76 = .ok (.bipush 10, 2) := by decide +kernel
theorem dX9_pushesAs_78 : decode cX9_pushesAs 78 = .ok (.invokevirtual 335, 3) := by decide +kernel
theorem dX9_pushesAs_81 : decode cX9_pushesAs 81 = .ok (.aload_n 0, 1) := by decide +kernel
theorem dX9_pushesAs_82 : decode cX9_pushesAs 82 = .ok (.aload_n 0, 1) := by decide +kernel
theorem dX9_pushesAs_83 : decode cX9_pushesAs 83 = .ok (.getfield 347, 3) := by decide +kernel
theorem dX9_pushesAs_86 : decode cX9_pushesAs 86 = .ok (.iload_n 2, 1) := by decide +kernel
theorem dX9_pushesAs_87 : decode cX9_pushesAs 87 = .ok (.invokevirtual 338, 3) := by decide +kernel
theorem dX9_pushesAs_90 : decode cX9_pushesAs 90 = .ok (.iconst 2, 1) := by decide +kernel
theorem dX9_pushesAs_91 : decode cX9_pushesAs 91 = .ok (.imul, 1) := by decide +kernel
theorem dX9_pushesAs_92 : decode cX9_pushesAs 92 = .ok (.ireturn, 1) := by decide +kernel
theorem dX9_yieldsAs_0 : decode cX9_yieldsAs 0 = .ok (.iload_n 1, 1) := by decide +kernel
theorem dX9_yieldsAs_1 : decode cX9_yieldsAs 1 = .ok (.iconst 3, 1) := by decide +kernel
theorem dX9_yieldsAs_2 : decode cX9_yieldsAs 2 = .ok (.if_icmp .eq 8, 3) := by decide +kernel
theorem dX9_yieldsAs_5 : decode cX9_yieldsAs 5 = .ok (.iload_n 1, 1) := by decide +kernel
theorem dX9_yieldsAs_6 : decode cX9_yieldsAs 6 = .ok (.iconst 5, 1) := by decide +kernel
theorem dX9_yieldsAs_7 : decode cX9_yieldsAs 7 = .ok (.if_icmp .ne 18, 3) := by decide +kernel
theorem dX9_yieldsAs_10 : decode cX9_yieldsAs 10 = .ok (.aload_n 0, 1) := by decide +kernel
theorem dX9_yieldsAs_11 : decode cX9_yieldsAs 11 = .ok (.bipush 40, 2) := by decide +kernel
theorem dX9_yieldsAs_13 : decode cX9_yieldsAs 13 = .ok (.invokevirtual 335, 3) := by decide +kernel
theorem dX9_yieldsAs_16 : decode cX9_yieldsAs 16 = .ok (.aload_n 0, 1) := by decide +kernel
theorem dX9_yieldsAs_17 : decode cX9_yieldsAs 17 = .ok (.iconst 2, 1) := by decide +kernel
theorem dX9_yieldsAs_18 : decode cX9_yieldsAs 18 = .ok (.iload_n 2, 1) := by decide +kernel
theorem dX9_yieldsAs_19 : decode cX9_yieldsAs 19 = .ok (.invokevirtual 350, 3) := by decide +kernel
theorem dX9_yieldsAs_22 : decode cX9_yieldsAs 22 = .ok (.iconst 3, 1) := by decide +kernel
theorem dX9_yieldsAs_23 : decode cX9_yieldsAs 23 = .ok (.imul, 1) := by decide +kernel
theorem dX9_yieldsAs_24 : decode cX9_yieldsAs 24 = .ok (.ireturn, 1) := by decide +kernel
theorem dX9_yieldsAs_25 : decode cX9_yieldsAs 25 = .ok (.iload_n 1, 1) := by decide +kernel
theorem dX9_yieldsAs_26 : decode cX9_yieldsAs 26 = .ok (.iconst 4, 1) := by decide +kernel
theorem dX9_yieldsAs_27 : decode cX9_yieldsAs 27 = .ok (.if_icmp .eq 9, 3) := by decide +kernel
theorem dX9_yieldsAs_30 : decode cX9_yieldsAs 30 = .ok (.iload_n 1, 1) := by decide +kernel
theorem dX9_yieldsAs_31 : decode cX9_yieldsAs 31 = .ok (.bipush 7, 2) := by decide +kernel
theorem dX9_yieldsAs_33 : decode cX9_yieldsAs 33 = .ok (.if_icmp .ne 28, 3) := by decide +kernel
theorem dX9_yieldsAs_36 : decode cX9_yieldsAs 36 = .ok (.aload_n 0, 1) := by decide +kernel
theorem dX9_yieldsAs_37 : decode cX9_yieldsAs 37 = .ok (.bipush 50, 2) := by decide +kernel
theorem dX9_yieldsAs_39 : decode cX9_yieldsAs 39 = .ok (.invokevirtual 335, 3) := by decide +kernel
theorem dX9_yieldsAs_42 : decode cX9_yieldsAs 42 = .ok (.aload_n 0, 1) := by decide +kernel
theorem dX9_yieldsAs_43 : decode cX9_yieldsAs 43 = .ok (.iconst 1, 1) := by decide +kernel
theorem dX9_yieldsAs_44 : decode cX9_yieldsAs 44 = .ok (.iload_n 2, 1) := by decide +kernel
theorem dX9_yieldsAs_45 : decode cX9_yieldsAs 45 = .ok (.invokevirtual 350, 3) := by decide +kernel
theorem dX9_yieldsAs_48 : decode cX9_yieldsAs 48 = .ok (.istore_n 3, 1) := by decide +kernel
theorem dX9_yieldsAs_49 : decode cX9_yieldsAs 49 = .ok (.iload_n 3, 1) := by decide +kernel
theorem dX9_yieldsAs_50 : decode cX9_yieldsAs 50 = .ok (.aload_n 0, 1) := by decide +kernel
theorem dX9_yieldsAs_51 : decode cX9_yieldsAs 51 = .ok (.aload_n 0, 1) := by decide +kernel
theorem dX9_yieldsAs_52 : decode cX9_yieldsAs 52 = .ok (.getfield 347, 3) := by decide +kernel
theorem dX9_yieldsAs_55 : decode cX9_yieldsAs 55 = .ok (.iconst 2, 1) := by decide +kernel
theorem dX9_yieldsAs_56 : decode cX9_yieldsAs 56 = .ok (.invokevirtual 338, 3) := by decide +kernel
theorem dX9_yieldsAs_59 : decode cX9_yieldsAs 59 = .ok (.isub, 1) := by decide +kernel
theorem dX9_yieldsAs_60 : decode cX9_yieldsAs 60 = .ok (.ireturn, 1) := by decide +kernel
theorem dX9_yieldsAs_61 : decode cX9_yieldsAs 61 = .ok (.aload_n 0, 1) := by decide +kernel
theorem dX9_yieldsAs_62 : decode cX9_yieldsAs 62 = .ok (.bipush 11, 2) := by decide +kernel
theorem dX9_yieldsAs_64 : decode cX9_yieldsAs 64 = .ok (.invokevirtual 335, 3) := by decide +kernel
theorem dX9_yieldsAs_67 : decode cX9_yieldsAs 67 = .ok (.iload_n 2, 1) := by decide +kernel
theorem dX9_yieldsAs_68 : decode cX9_yieldsAs 68 = .ok (.aload_n 0, 1) := by decide +kernel
theorem dX9_yieldsAs_69 : decode cX9_yieldsAs 69 = .ok (.getfield 341, 3) := by decide +kernel
theorem dX9_yieldsAs_72 : decode cX9_yieldsAs 72 = .ok (.ixor, 1) := by decide +kernel
theorem dX9_yieldsAs_73 : decode cX9_yieldsAs 73 = .ok (.ireturn, 1) := by decide +kernel
theorem dX9_tradesAs_0 : decode cX9_tradesAs 0 = .ok (.iload_n 1, 1) := by decide +kernel
theorem dX9_tradesAs_1 : decode cX9_tradesAs 1 = .ok (.iconst 5, 1) := by decide +kernel
theorem dX9_tradesAs_2 : decode cX9_tradesAs 2 = .ok (.if_icmp .ne 18, 3) := by decide +kernel
theorem dX9_tradesAs_5 : decode cX9_tradesAs 5 = .ok (.aload_n 0, 1) := by decide +kernel
theorem dX9_tradesAs_6 : decode cX9_tradesAs 6 = .ok (.bipush 60, 2) := by decide +kernel
theorem dX9_tradesAs_8 : decode cX9_tradesAs 8 = .ok (.invokevirtual 335, 3) := by decide +kernel
theorem dX9_tradesAs_11 : decode cX9_tradesAs 11 = .ok (.aload_n 0, 1) := by decide +kernel
theorem dX9_tradesAs_12 : decode cX9_tradesAs 12 = .ok (.iconst 3, 1) := by decide +kernel
theorem dX9_tradesAs_13 : decode cX9_tradesAs 13 = .ok (.iload_n 2, 1) := by decide +kernel
theorem dX9_tradesAs_14 : decode cX9_tradesAs 14 = .ok (.invokevirtual 353, 3) := by decide +kernel
theorem dX9_tradesAs_17 : decode cX9_tradesAs 17 = .ok (.iconst 5, 1) := by decide +kernel
theorem dX9_tradesAs_18 : decode cX9_tradesAs 18 = .ok (.ixor, 1) := by decide +kernel
theorem dX9_tradesAs_19 : decode cX9_tradesAs 19 = .ok (.ireturn, 1) := by decide +kernel
theorem dX9_tradesAs_20 : decode cX9_tradesAs 20 = .ok (.iload_n 1, 1) := by decide +kernel
theorem dX9_tradesAs_21 : decode cX9_tradesAs 21 = .ok (.bipush 7, 2) := by decide +kernel
theorem dX9_tradesAs_23 : decode cX9_tradesAs 23 = .ok (.if_icmp .ne 18, 3) := by decide +kernel
theorem dX9_tradesAs_26 : decode cX9_tradesAs 26 = .ok (.aload_n 0, 1) := by decide +kernel
theorem dX9_tradesAs_27 : decode cX9_tradesAs 27 = .ok (.bipush 81, 2) := by decide +kernel
theorem dX9_tradesAs_29 : decode cX9_tradesAs 29 = .ok (.invokevirtual 335, 3) := by decide +kernel
theorem dX9_tradesAs_32 : decode cX9_tradesAs 32 = .ok (.aload_n 0, 1) := by decide +kernel
theorem dX9_tradesAs_33 : decode cX9_tradesAs 33 = .ok (.iconst 4, 1) := by decide +kernel
theorem dX9_tradesAs_34 : decode cX9_tradesAs 34 = .ok (.iload_n 2, 1) := by decide +kernel
theorem dX9_tradesAs_35 : decode cX9_tradesAs 35 = .ok (.invokevirtual 353, 3) := by decide +kernel
theorem dX9_tradesAs_38 : decode cX9_tradesAs 38 = .ok (.iconst 1, 1) := by decide +kernel
theorem dX9_tradesAs_39 : decode cX9_tradesAs 39 = .ok (.isub, 1) := by decide +kernel
theorem dX9_tradesAs_40 : decode cX9_tradesAs 40 = .ok (.ireturn, 1) := by decide +kernel
theorem dX9_tradesAs_41 : decode cX9_tradesAs 41 = .ok (.aload_n 0, 1) := by decide +kernel
theorem dX9_tradesAs_42 : decode cX9_tradesAs 42 = .ok (.iconst 2, 1) := by decide +kernel
theorem dX9_tradesAs_43 : decode cX9_tradesAs 43 = .ok (.invokevirtual 335, 3) := by decide +kernel
theorem dX9_tradesAs_46 : decode cX9_tradesAs 46 = .ok (.aload_n 0, 1) := by decide +kernel
theorem dX9_tradesAs_47 : decode cX9_tradesAs 47 = .ok (.aload_n 0, 1) := by decide +kernel
theorem dX9_tradesAs_48 : decode cX9_tradesAs 48 = .ok (.getfield 347, 3) := by decide +kernel
theorem dX9_tradesAs_51 : decode cX9_tradesAs 51 = .ok (.iload_n 2, 1) := by decide +kernel
theorem dX9_tradesAs_52 : decode cX9_tradesAs 52 = .ok (.invokevirtual 344, 3) := by decide +kernel
theorem dX9_tradesAs_55 : decode cX9_tradesAs 55 = .ok (.istore_n 3, 1) := by decide +kernel
theorem dX9_tradesAs_56 : decode cX9_tradesAs 56 = .ok (.iload_n 3, 1) := by decide +kernel
theorem dX9_tradesAs_57 : decode cX9_tradesAs 57 = .ok (.aload_n 0, 1) := by decide +kernel
theorem dX9_tradesAs_58 : decode cX9_tradesAs 58 = .ok (.aload_n 0, 1) := by decide +kernel
theorem dX9_tradesAs_59 : decode cX9_tradesAs 59 = .ok (.getfield 347, 3) := by decide +kernel
theorem dX9_tradesAs_62 : decode cX9_tradesAs 62 = .ok (.iconst 1, 1) := by decide +kernel
theorem dX9_tradesAs_63 : decode cX9_tradesAs 63 = .ok (.invokevirtual 350, 3) := by decide +kernel
theorem dX9_tradesAs_66 : decode cX9_tradesAs 66 = .ok (.isub, 1) := by decide +kernel
theorem dX9_tradesAs_67 : decode cX9_tradesAs 67 = .ok (.ireturn, 1) := by decide +kernel
theorem dX9_act_0 : decode cX9_act 0 = .ok (.aload_n 0, 1) := by decide +kernel
theorem dX9_act_1 : decode cX9_act 1 = .ok (.iconst 0, 1) := by decide +kernel
theorem dX9_act_2 : decode cX9_act 2 = .ok (.putfield 332, 3) := by decide +kernel
theorem dX9_act_5 : decode cX9_act 5 = .ok (.aload_n 0, 1) := by decide +kernel
theorem dX9_act_6 : decode cX9_act 6 = .ok (.iload_n 1, 1) := by decide +kernel
theorem dX9_act_7 : decode cX9_act 7 = .ok (.invokevirtual 356, 3) := by decide +kernel
theorem dX9_act_10 : decode cX9_act 10 = .ok (.ifCond .ne 5, 3) := by decide +kernel
theorem dX9_act_13 : decode cX9_act 13 = .ok (.iconst 0, 1) := by decide +kernel
theorem dX9_act_14 : decode cX9_act 14 = .ok (.ireturn, 1) := by decide +kernel
theorem dX9_act_15 : decode cX9_act 15 = .ok (.aload_n 0, 1) := by decide +kernel
theorem dX9_act_16 : decode cX9_act 16 = .ok (.aload_n 0, 1) := by decide +kernel
theorem dX9_act_17 : decode cX9_act 17 = .ok (.getfield 82, 3) := by decide +kernel
theorem dX9_act_20 : decode cX9_act 20 = .ok (.iload_n 1, 1) := by decide +kernel
theorem dX9_act_21 : decode cX9_act 21 = .ok (.iaload, 1) := by decide +kernel
theorem dX9_act_22 : decode cX9_act 22 = .ok (.putfield 347, 3) := by decide +kernel
theorem dX9_act_25 : decode cX9_act 25 = .ok (.aload_n 0, 1) := by decide +kernel
theorem dX9_act_26 : decode cX9_act 26 = .ok (.iload_n 1, 1) := by decide +kernel
theorem dX9_act_27 : decode cX9_act 27 = .ok (.putfield 341, 3) := by decide +kernel
theorem dX9_act_30 : decode cX9_act 30 = .ok (.iload_n 2, 1) := by decide +kernel
theorem dX9_act_31 : decode cX9_act 31 = .ok (.tableswitch 69 0 3 #[29, 39, 49, 59], 29) := by decide +kernel
theorem dX9_act_60 : decode cX9_act 60 = .ok (.aload_n 0, 1) := by decide +kernel
theorem dX9_act_61 : decode cX9_act 61 = .ok (.aload_n 0, 1) := by decide +kernel
theorem dX9_act_62 : decode cX9_act 62 = .ok (.getfield 347, 3) := by decide +kernel
theorem dX9_act_65 : decode cX9_act 65 = .ok (.iload_n 3, 1) := by decide +kernel
theorem dX9_act_66 : decode cX9_act 66 = .ok (.invokevirtual 338, 3) := by decide +kernel
theorem dX9_act_69 : decode cX9_act 69 = .ok (.ireturn, 1) := by decide +kernel
theorem dX9_act_70 : decode cX9_act 70 = .ok (.aload_n 0, 1) := by decide +kernel
theorem dX9_act_71 : decode cX9_act 71 = .ok (.aload_n 0, 1) := by decide +kernel
theorem dX9_act_72 : decode cX9_act 72 = .ok (.getfield 347, 3) := by decide +kernel
theorem dX9_act_75 : decode cX9_act 75 = .ok (.iload_n 3, 1) := by decide +kernel
theorem dX9_act_76 : decode cX9_act 76 = .ok (.invokevirtual 344, 3) := by decide +kernel
theorem dX9_act_79 : decode cX9_act 79 = .ok (.ireturn, 1) := by decide +kernel
theorem dX9_act_80 : decode cX9_act 80 = .ok (.aload_n 0, 1) := by decide +kernel
theorem dX9_act_81 : decode cX9_act 81 = .ok (.aload_n 0, 1) := by decide +kernel
theorem dX9_act_82 : decode cX9_act 82 = .ok (.getfield 347, 3) := by decide +kernel
theorem dX9_act_85 : decode cX9_act 85 = .ok (.iload_n 3, 1) := by decide +kernel
theorem dX9_act_86 : decode cX9_act 86 = .ok (.invokevirtual 350, 3) := by decide +kernel
theorem dX9_act_89 : decode cX9_act 89 = .ok (.ireturn, 1) := by decide +kernel
theorem dX9_act_90 : decode cX9_act 90 = .ok (.aload_n 0, 1) := by decide +kernel
theorem dX9_act_91 : decode cX9_act 91 = .ok (.aload_n 0, 1) := by decide +kernel
theorem dX9_act_92 : decode cX9_act 92 = .ok (.getfield 347, 3) := by decide +kernel
theorem dX9_act_95 : decode cX9_act 95 = .ok (.iload_n 3, 1) := by decide +kernel
theorem dX9_act_96 : decode cX9_act 96 = .ok (.invokevirtual 353, 3) := by decide +kernel
theorem dX9_act_99 : decode cX9_act 99 = .ok (.ireturn, 1) := by decide +kernel
theorem dX9_act_100 : decode cX9_act 100 = .ok (.iconst 0, 1) := by decide +kernel
theorem dX9_act_101 : decode cX9_act 101 = .ok (.ireturn, 1) := by decide +kernel
theorem dX9_trace_0 : decode cX9_trace 0 = .ok (.iload_n 1, 1) := by decide +kernel
theorem dX9_trace_1 : decode cX9_trace 1 = .ok (.ifCond .lt 26, 3) := by decide +kernel
theorem dX9_trace_4 : decode cX9_trace 4 = .ok (.iload_n 1, 1) := by decide +kernel
theorem dX9_trace_5 : decode cX9_trace 5 = .ok (.aload_n 0, 1) := by decide +kernel
theorem dX9_trace_6 : decode cX9_trace 6 = .ok (.getfield 332, 3) := by decide +kernel
theorem dX9_trace_9 : decode cX9_trace 9 = .ok (.if_icmp .ge 18, 3) := by decide +kernel
theorem dX9_trace_12 : decode cX9_trace 12 = .ok (.iload_n 1, 1) := by decide +kernel
theorem dX9_trace_13 : decode cX9_trace 13 = .ok (.bipush 24, 2) := by decide +kernel
theorem dX9_trace_15 : decode cX9_trace 15 = .ok (.if_icmp .ge 12, 3) := by decide +kernel
theorem dX9_trace_18 : decode cX9_trace 18 = .ok (.aload_n 0, 1) := by decide +kernel
theorem dX9_trace_19 : decode cX9_trace 19 = .ok (.getfield 85, 3) := by decide +kernel
theorem dX9_trace_22 : decode cX9_trace 22 = .ok (.iload_n 1, 1) := by decide +kernel
theorem dX9_trace_23 : decode cX9_trace 23 = .ok (.iaload, 1) := by decide +kernel
theorem dX9_trace_24 : decode cX9_trace 24 = .ok (.goto 4, 3) := by decide +kernel
theorem dX9_trace_27 : decode cX9_trace 27 = .ok (.iconst (-1), 1) := by decide +kernel
theorem dX9_trace_28 : decode cX9_trace 28 = .ok (.ireturn, 1) := by decide +kernel
theorem dX9_isShelf_0 : decode cX9_isShelf 0 = .ok (.iload_n 0, 1) := by decide +kernel
theorem dX9_isShelf_1 : decode cX9_isShelf 1 = .ok (.i2l, 1) := by decide +kernel
theorem dX9_isShelf_2 : decode cX9_isShelf 2 = .ok (.lconst 0, 1) := by decide +kernel
theorem dX9_isShelf_3 : decode cX9_isShelf 3 = .ok (.ldc2_w 359, 3) := by decide +kernel
theorem dX9_isShelf_6 : decode cX9_isShelf 6 = .ok (.invokestatic 114, 3) := by decide +kernel
theorem dX9_isShelf_9 : decode cX9_isShelf 9 = .ok (.ireturn, 1) := by decide +kernel
theorem dX9_keep_0 : decode cX9_keep 0 = .ok (.iload_n 1, 1) := by decide +kernel
theorem dX9_keep_1 : decode cX9_keep 1 = .ok (.invokestatic 134, 3) := by decide +kernel
theorem dX9_keep_4 : decode cX9_keep 4 = .ok (.ifCond .eq 16, 3) := by decide +kernel
theorem dX9_keep_7 : decode cX9_keep 7 = .ok (.iload_n 2, 1) := by decide +kernel
theorem dX9_keep_8 : decode cX9_keep 8 = .ok (.iconst (-1), 1) := by decide +kernel
theorem dX9_keep_9 : decode cX9_keep 9 = .ok (.if_icmp .eq 13, 3) := by decide +kernel
theorem dX9_keep_12 : decode cX9_keep 12 = .ok (.aload_n 0, 1) := by decide +kernel
theorem dX9_keep_13 : decode cX9_keep 13 = .ok (.iload_n 2, 1) := by decide +kernel
theorem dX9_keep_14 : decode cX9_keep 14 = .ok (.invokevirtual 356, 3) := by decide +kernel
theorem dX9_keep_17 : decode cX9_keep 17 = .ok (.ifCond .ne 5, 3) := by decide +kernel
theorem dX9_keep_20 : decode cX9_keep 20 = .ok (.iconst (-1), 1) := by decide +kernel
theorem dX9_keep_21 : decode cX9_keep 21 = .ok (.ireturn, 1) := by decide +kernel
theorem dX9_keep_22 : decode cX9_keep 22 = .ok (.aload_n 0, 1) := by decide +kernel
theorem dX9_keep_23 : decode cX9_keep 23 = .ok (.getfield 88, 3) := by decide +kernel
theorem dX9_keep_26 : decode cX9_keep 26 = .ok (.iload_n 1, 1) := by decide +kernel
theorem dX9_keep_27 : decode cX9_keep 27 = .ok (.iload_n 2, 1) := by decide +kernel
theorem dX9_keep_28 : decode cX9_keep 28 = .ok (.iastore, 1) := by decide +kernel
theorem dX9_keep_29 : decode cX9_keep 29 = .ok (.aload_n 0, 1) := by decide +kernel
theorem dX9_keep_30 : decode cX9_keep 30 = .ok (.getfield 91, 3) := by decide +kernel
theorem dX9_keep_33 : decode cX9_keep 33 = .ok (.iload_n 1, 1) := by decide +kernel
theorem dX9_keep_34 : decode cX9_keep 34 = .ok (.iconst 0, 1) := by decide +kernel
theorem dX9_keep_35 : decode cX9_keep 35 = .ok (.iastore, 1) := by decide +kernel
theorem dX9_keep_36 : decode cX9_keep 36 = .ok (.iconst 1, 1) := by decide +kernel
theorem dX9_keep_37 : decode cX9_keep 37 = .ok (.ireturn, 1) := by decide +kernel
theorem dX9_row_0 : decode cX9_row 0 = .ok (.iload_n 1, 1) := by decide +kernel
theorem dX9_row_1 : decode cX9_row 1 = .ok (.invokestatic 134, 3) := by decide +kernel
theorem dX9_row_4 : decode cX9_row 4 = .ok (.ifCond .eq 21, 3) := by decide +kernel
theorem dX9_row_7 : decode cX9_row 7 = .ok (.iload_n 2, 1) := by decide +kernel
theorem dX9_row_8 : decode cX9_row 8 = .ok (.i2l, 1) := by decide +kernel
theorem dX9_row_9 : decode cX9_row 9 = .ok (.lconst 0, 1) := by decide +kernel
theorem dX9_row_10 : decode cX9_row 10 = .ok (.ldc2_w 151, 3) := by decide +kernel
theorem dX9_row_13 : decode cX9_row 13 = .ok (.invokestatic 114, 3) := by decide +kernel
theorem dX9_row_16 : decode cX9_row 16 = .ok (.ifCond .eq 9, 3) := by decide +kernel
theorem dX9_row_19 : decode cX9_row 19 = .ok (.iload_n 3, 1) := by decide +kernel
theorem dX9_row_20 : decode cX9_row 20 = .ok (.bipush 60, 2) := by decide +kernel
theorem dX9_row_22 : decode cX9_row 22 = .ok (.if_icmp .le 5, 3) := by decide +kernel
theorem dX9_row_25 : decode cX9_row 25 = .ok (.iconst (-1), 1) := by decide +kernel
theorem dX9_row_26 : decode cX9_row 26 = .ok (.ireturn, 1) := by decide +kernel
theorem dX9_row_27 : decode cX9_row 27 = .ok (.iload_n 3, 1) := by decide +kernel
theorem dX9_row_28 : decode cX9_row 28 = .ok (.ifCond .ge 6, 3) := by decide +kernel
theorem dX9_row_31 : decode cX9_row 31 = .ok (.bipush (-14), 2) := by decide +kernel
theorem dX9_row_33 : decode cX9_row 33 = .ok (.ireturn, 1) := by decide +kernel
theorem dX9_row_34 : decode cX9_row 34 = .ok (.aload_n 0, 1) := by decide +kernel
theorem dX9_row_35 : decode cX9_row 35 = .ok (.getfield 88, 3) := by decide +kernel
theorem dX9_row_38 : decode cX9_row 38 = .ok (.iload_n 1, 1) := by decide +kernel
theorem dX9_row_39 : decode cX9_row 39 = .ok (.bipush 50, 2) := by decide +kernel
theorem dX9_row_41 : decode cX9_row 41 = .ok (.iload_n 2, 1) := by decide +kernel
theorem dX9_row_42 : decode cX9_row 42 = .ok (.iadd, 1) := by decide +kernel
theorem dX9_row_43 : decode cX9_row 43 = .ok (.iastore, 1) := by decide +kernel
theorem dX9_row_44 : decode cX9_row 44 = .ok (.aload_n 0, 1) := by decide +kernel
theorem dX9_row_45 : decode cX9_row 45 = .ok (.getfield 91, 3) := by decide +kernel
theorem dX9_row_48 : decode cX9_row 48 = .ok (.iload_n 1, 1) := by decide +kernel
theorem dX9_row_49 : decode cX9_row 49 = .ok (.iload_n 3, 1) := by decide +kernel
theorem dX9_row_50 : decode cX9_row 50 = .ok (.iastore, 1) := by decide +kernel
theorem dX9_row_51 : decode cX9_row 51 = .ok (.bipush 60, 2) := by decide +kernel
theorem dX9_row_53 : decode cX9_row 53 = .ok (.iload_n 1, 1) := by decide +kernel
theorem dX9_row_54 : decode cX9_row 54 = .ok (.imul, 1) := by decide +kernel
theorem dX9_row_55 : decode cX9_row 55 = .ok (.istore 4, 2) := by decide +kernel
theorem dX9_row_57 : decode cX9_row 57 = .ok (.iload 4, 2) := by decide +kernel
theorem dX9_row_59 : decode cX9_row 59 = .ok (.bipush 60, 2) := by decide +kernel
theorem dX9_row_61 : decode cX9_row 61 = .ok (.iload_n 1, 1) := by decide +kernel
theorem dX9_row_62 : decode cX9_row 62 = .ok (.imul, 1) := by decide +kernel
theorem dX9_row_63 : decode cX9_row 63 = .ok (.bipush 60, 2) := by decide +kernel
theorem dX9_row_65 : decode cX9_row 65 = .ok (.iadd, 1) := by decide +kernel
theorem dX9_row_66 : decode cX9_row 66 = .ok (.if_icmp .ge 17, 3) := by decide +kernel
theorem dX9_row_69 : decode cX9_row 69 = .ok (.aload_n 0, 1) := by decide +kernel
theorem dX9_row_70 : decode cX9_row 70 = .ok (.getfield 94, 3) := by decide +kernel
theorem dX9_row_73 : decode cX9_row 73 = .ok (.iload 4, 2) := by decide +kernel
theorem dX9_row_75 : decode cX9_row 75 = .ok (.lconst 0, 1) := by decide +kernel
theorem dX9_row_76 : decode cX9_row 76 = .ok (.lastore, 1) := by decide +kernel
theorem dX9_row_77 : decode cX9_row 77 = .ok (.iinc 4 1, 3) := by decide +kernel
theorem dX9_row_80 : decode cX9_row 80 = .ok (.goto (-23), 3) := by decide +kernel
theorem dX9_row_83 : decode cX9_row 83 = .ok (.iconst 1, 1) := by decide +kernel
theorem dX9_row_84 : decode cX9_row 84 = .ok (.ireturn, 1) := by decide +kernel
theorem dX9_refusal_0 : decode cX9_refusal 0 = .ok (.iload_n 1, 1) := by decide +kernel
theorem dX9_refusal_1 : decode cX9_refusal 1 = .ok (.invokestatic 134, 3) := by decide +kernel
theorem dX9_refusal_4 : decode cX9_refusal 4 = .ok (.ifCond .ne 5, 3) := by decide +kernel
theorem dX9_refusal_7 : decode cX9_refusal 7 = .ok (.iconst (-1), 1) := by decide +kernel
theorem dX9_refusal_8 : decode cX9_refusal 8 = .ok (.ireturn, 1) := by decide +kernel
theorem dX9_refusal_9 : decode cX9_refusal 9 = .ok (.aload_n 0, 1) := by decide +kernel
theorem dX9_refusal_10 : decode cX9_refusal 10 = .ok (.getfield 88, 3) := by decide +kernel
theorem dX9_refusal_13 : decode cX9_refusal 13 = .ok (.iload_n 1, 1) := by decide +kernel
theorem dX9_refusal_14 : decode cX9_refusal 14 = .ok (.iaload, 1) := by decide +kernel
theorem dX9_refusal_15 : decode cX9_refusal 15 = .ok (.ifCond .ge 6, 3) := by decide +kernel
theorem dX9_refusal_18 : decode cX9_refusal 18 = .ok (.bipush (-11), 2) := by decide +kernel
theorem dX9_refusal_20 : decode cX9_refusal 20 = .ok (.ireturn, 1) := by decide +kernel
theorem dX9_refusal_21 : decode cX9_refusal 21 = .ok (.aload_n 0, 1) := by decide +kernel
theorem dX9_refusal_22 : decode cX9_refusal 22 = .ok (.getfield 88, 3) := by decide +kernel
theorem dX9_refusal_25 : decode cX9_refusal 25 = .ok (.iload_n 1, 1) := by decide +kernel
theorem dX9_refusal_26 : decode cX9_refusal 26 = .ok (.iaload, 1) := by decide +kernel
theorem dX9_refusal_27 : decode cX9_refusal 27 = .ok (.bipush 50, 2) := by decide +kernel
theorem dX9_refusal_29 : decode cX9_refusal 29 = .ok (.if_icmp .ge 6, 3) := by decide +kernel
theorem dX9_refusal_32 : decode cX9_refusal 32 = .ok (.bipush (-12), 2) := by decide +kernel
theorem dX9_refusal_34 : decode cX9_refusal 34 = .ok (.ireturn, 1) := by decide +kernel
theorem dX9_refusal_35 : decode cX9_refusal 35 = .ok (.iload_n 2, 1) := by decide +kernel
theorem dX9_refusal_36 : decode cX9_refusal 36 = .ok (.ifCond .lt 17, 3) := by decide +kernel
theorem dX9_refusal_39 : decode cX9_refusal 39 = .ok (.iload_n 2, 1) := by decide +kernel
theorem dX9_refusal_40 : decode cX9_refusal 40 = .ok (.aload_n 0, 1) := by decide +kernel
theorem dX9_refusal_41 : decode cX9_refusal 41 = .ok (.getfield 91, 3) := by decide +kernel
theorem dX9_refusal_44 : decode cX9_refusal 44 = .ok (.iload_n 1, 1) := by decide +kernel
theorem dX9_refusal_45 : decode cX9_refusal 45 = .ok (.iaload, 1) := by decide +kernel
theorem dX9_refusal_46 : decode cX9_refusal 46 = .ok (.if_icmp .ge 7, 3) := by decide +kernel
theorem dX9_refusal_49 : decode cX9_refusal 49 = .ok (.iconst 0, 1) := by decide +kernel
theorem dX9_refusal_50 : decode cX9_refusal 50 = .ok (.goto 5, 3) := by decide +kernel
theorem dX9_refusal_53 : decode cX9_refusal 53 = .ok (.bipush (-13), 2) := by decide +kernel
theorem dX9_refusal_55 : decode cX9_refusal 55 = .ok (.ireturn, 1) := by decide +kernel
theorem dX9_asSort_0 : decode cX9_asSort 0 = .ok (.iload_n 0, 1) := by decide +kernel
theorem dX9_asSort_1 : decode cX9_asSort 1 = .ok (.ifCond .ne 10, 3) := by decide +kernel
theorem dX9_asSort_4 : decode cX9_asSort 4 = .ok (.lload_n 1, 1) := by decide +kernel
theorem dX9_asSort_5 : decode cX9_asSort 5 = .ok (.l2i, 1) := by decide +kernel
theorem dX9_asSort_6 : decode cX9_asSort 6 = .ok (.i2b, 1) := by decide +kernel
theorem dX9_asSort_7 : decode cX9_asSort 7 = .ok (.i2l, 1) := by decide +kernel
theorem dX9_asSort_8 : decode cX9_asSort 8 = .ok (.goto 46, 3) := by decide +kernel
theorem dX9_asSort_11 : decode cX9_asSort 11 = .ok (.iload_n 0, 1) := by decide +kernel
theorem dX9_asSort_12 : decode cX9_asSort 12 = .ok (.iconst 1, 1) := by decide +kernel
theorem dX9_asSort_13 : decode cX9_asSort 13 = .ok (.if_icmp .ne 10, 3) := by decide +kernel
theorem dX9_asSort_16 : decode cX9_asSort 16 = .ok (.lload_n 1, 1) := by decide +kernel
theorem dX9_asSort_17 : decode cX9_asSort 17 = .ok (.l2i, 1) := by decide +kernel
theorem dX9_asSort_18 : decode cX9_asSort 18 = .ok (.i2s, 1) := by decide +kernel
theorem dX9_asSort_19 : decode cX9_asSort 19 = .ok (.i2l, 1) := by decide +kernel
theorem dX9_asSort_20 : decode cX9_asSort 20 = .ok (.goto 34, 3) := by decide +kernel
theorem dX9_asSort_23 : decode cX9_asSort 23 = .ok (.iload_n 0, 1) := by decide +kernel
theorem dX9_asSort_24 : decode cX9_asSort 24 = .ok (.iconst 2, 1) := by decide +kernel
theorem dX9_asSort_25 : decode cX9_asSort 25 = .ok (.if_icmp .ne 9, 3) := by decide +kernel
theorem dX9_asSort_28 : decode cX9_asSort 28 = .ok (.lload_n 1, 1) := by decide +kernel
theorem dX9_asSort_29 : decode cX9_asSort 29 = .ok (.l2i, 1) := by decide +kernel
theorem dX9_asSort_30 : decode cX9_asSort 30 = .ok (.i2l, 1) := by decide +kernel
theorem dX9_asSort_31 : decode cX9_asSort 31 = .ok (.goto 23, 3) := by decide +kernel
theorem dX9_asSort_34 : decode cX9_asSort 34 = .ok (.iload_n 0, 1) := by decide +kernel
theorem dX9_asSort_35 : decode cX9_asSort 35 = .ok (.iconst 4, 1) := by decide +kernel
theorem dX9_asSort_36 : decode cX9_asSort 36 = .ok (.if_icmp .ne 17, 3) := by decide +kernel
theorem dX9_asSort_39 : decode cX9_asSort 39 = .ok (.lload_n 1, 1) := by decide +kernel
theorem dX9_asSort_40 : decode cX9_asSort 40 = .ok (.lconst 0, 1) := by decide +kernel
theorem dX9_asSort_41 : decode cX9_asSort 41 = .ok (.lcmp, 1) := by decide +kernel
theorem dX9_asSort_42 : decode cX9_asSort 42 = .ok (.ifCond .eq 7, 3) := by decide +kernel
theorem dX9_asSort_45 : decode cX9_asSort 45 = .ok (.lconst 1, 1) := by decide +kernel
theorem dX9_asSort_46 : decode cX9_asSort 46 = .ok (.goto 8, 3) := by decide +kernel
theorem dX9_asSort_49 : decode cX9_asSort 49 = .ok (.lconst 0, 1) := by decide +kernel
theorem dX9_asSort_50 : decode cX9_asSort 50 = .ok (.goto 4, 3) := by decide +kernel
theorem dX9_asSort_53 : decode cX9_asSort 53 = .ok (.lload_n 1, 1) := by decide +kernel
theorem dX9_asSort_54 : decode cX9_asSort 54 = .ok (.lreturn, 1) := by decide +kernel
theorem dX9_put_0 : decode cX9_put 0 = .ok (.aload_n 0, 1) := by decide +kernel
theorem dX9_put_1 : decode cX9_put 1 = .ok (.iload_n 1, 1) := by decide +kernel
theorem dX9_put_2 : decode cX9_put 2 = .ok (.iload_n 2, 1) := by decide +kernel
theorem dX9_put_3 : decode cX9_put 3 = .ok (.invokevirtual 361, 3) := by decide +kernel
theorem dX9_put_6 : decode cX9_put 6 = .ok (.istore 5, 2) := by decide +kernel
theorem dX9_put_8 : decode cX9_put 8 = .ok (.iload 5, 2) := by decide +kernel
theorem dX9_put_10 : decode cX9_put 10 = .ok (.ifCond .ne 27, 3) := by decide +kernel
theorem dX9_put_13 : decode cX9_put 13 = .ok (.aload_n 0, 1) := by decide +kernel
theorem dX9_put_14 : decode cX9_put 14 = .ok (.getfield 94, 3) := by decide +kernel
theorem dX9_put_17 : decode cX9_put 17 = .ok (.bipush 60, 2) := by decide +kernel
theorem dX9_put_19 : decode cX9_put 19 = .ok (.iload_n 1, 1) := by decide +kernel
theorem dX9_put_20 : decode cX9_put 20 = .ok (.imul, 1) := by decide +kernel
theorem dX9_put_21 : decode cX9_put 21 = .ok (.iload_n 2, 1) := by decide +kernel
theorem dX9_put_22 : decode cX9_put 22 = .ok (.iadd, 1) := by decide +kernel
theorem dX9_put_23 : decode cX9_put 23 = .ok (.aload_n 0, 1) := by decide +kernel
theorem dX9_put_24 : decode cX9_put 24 = .ok (.getfield 88, 3) := by decide +kernel
theorem dX9_put_27 : decode cX9_put 27 = .ok (.iload_n 1, 1) := by decide +kernel
theorem dX9_put_28 : decode cX9_put 28 = .ok (.iaload, 1) := by decide +kernel
theorem dX9_put_29 : decode cX9_put 29 = .ok (.bipush 50, 2) := by decide +kernel
theorem dX9_put_31 : decode cX9_put 31 = .ok (.isub, 1) := by decide +kernel
theorem dX9_put_32 : decode cX9_put 32 = .ok (.lload_n 3, 1) := by decide +kernel
theorem dX9_put_33 : decode cX9_put 33 = .ok (.invokestatic 364, 3) := by decide +kernel
theorem dX9_put_36 : decode cX9_put 36 = .ok (.lastore, 1) := by decide +kernel
theorem dX9_put_37 : decode cX9_put 37 = .ok (.iload 5, 2) := by decide +kernel
theorem dX9_put_39 : decode cX9_put 39 = .ok (.ifCond .ne 7, 3) := by decide +kernel
theorem dX9_put_42 : decode cX9_put 42 = .ok (.iconst 1, 1) := by decide +kernel
theorem dX9_put_43 : decode cX9_put 43 = .ok (.goto 5, 3) := by decide +kernel
theorem dX9_put_46 : decode cX9_put 46 = .ok (.iload 5, 2) := by decide +kernel
theorem dX9_put_48 : decode cX9_put 48 = .ok (.ireturn, 1) := by decide +kernel
theorem dX9_element_0 : decode cX9_element 0 = .ok (.aload_n 0, 1) := by decide +kernel
theorem dX9_element_1 : decode cX9_element 1 = .ok (.iload_n 1, 1) := by decide +kernel
theorem dX9_element_2 : decode cX9_element 2 = .ok (.iload_n 2, 1) := by decide +kernel
theorem dX9_element_3 : decode cX9_element 3 = .ok (.invokevirtual 361, 3) := by decide +kernel
theorem dX9_element_6 : decode cX9_element 6 = .ok (.ifCond .eq 9, 3) := by decide +kernel
theorem dX9_element_9 : decode cX9_element 9 = .ok (.ldc2_w 370, 3) := by decide +kernel
theorem dX9_element_12 : decode cX9_element 12 = .ok (.goto 14, 3) := by decide +kernel
theorem dX9_element_15 : decode cX9_element 15 = .ok (.aload_n 0, 1) := by decide +kernel
theorem dX9_element_16 : decode cX9_element 16 = .ok (.getfield 94, 3) := by decide +kernel
theorem dX9_element_19 : decode cX9_element 19 = .ok (.bipush 60, 2) := by decide +kernel
theorem dX9_element_21 : decode cX9_element 21 = .ok (.iload_n 1, 1) := by decide +kernel
theorem dX9_element_22 : decode cX9_element 22 = .ok (.imul, 1) := by decide +kernel
theorem dX9_element_23 : decode cX9_element 23 = .ok (.iload_n 2, 1) := by decide +kernel
theorem dX9_element_24 : decode cX9_element 24 = .ok (.iadd, 1) := by decide +kernel
theorem dX9_element_25 : decode cX9_element 25 = .ok (.laload, 1) := by decide +kernel
theorem dX9_element_26 : decode cX9_element 26 = .ok (.lreturn, 1) := by decide +kernel
theorem dX9_shift_0 : decode cX9_shift 0 = .ok (.iload_n 1, 1) := by decide +kernel
theorem dX9_shift_1 : decode cX9_shift 1 = .ok (.invokestatic 134, 3) := by decide +kernel
theorem dX9_shift_4 : decode cX9_shift 4 = .ok (.ifCond .eq 10, 3) := by decide +kernel
theorem dX9_shift_7 : decode cX9_shift 7 = .ok (.iload_n 3, 1) := by decide +kernel
theorem dX9_shift_8 : decode cX9_shift 8 = .ok (.invokestatic 134, 3) := by decide +kernel
theorem dX9_shift_11 : decode cX9_shift 11 = .ok (.ifCond .ne 5, 3) := by decide +kernel
theorem dX9_shift_14 : decode cX9_shift 14 = .ok (.iconst (-1), 1) := by decide +kernel
theorem dX9_shift_15 : decode cX9_shift 15 = .ok (.ireturn, 1) := by decide +kernel
theorem dX9_shift_16 : decode cX9_shift 16 = .ok (.aload_n 0, 1) := by decide +kernel
theorem dX9_shift_17 : decode cX9_shift 17 = .ok (.getfield 88, 3) := by decide +kernel
theorem dX9_shift_20 : decode cX9_shift 20 = .ok (.iload_n 1, 1) := by decide +kernel
theorem dX9_shift_21 : decode cX9_shift 21 = .ok (.iaload, 1) := by decide +kernel
theorem dX9_shift_22 : decode cX9_shift 22 = .ok (.ifCond .lt 12, 3) := by decide +kernel
theorem dX9_shift_25 : decode cX9_shift 25 = .ok (.aload_n 0, 1) := by decide +kernel
theorem dX9_shift_26 : decode cX9_shift 26 = .ok (.getfield 88, 3) := by decide +kernel
theorem dX9_shift_29 : decode cX9_shift 29 = .ok (.iload_n 3, 1) := by decide +kernel
theorem dX9_shift_30 : decode cX9_shift 30 = .ok (.iaload, 1) := by decide +kernel
theorem dX9_shift_31 : decode cX9_shift 31 = .ok (.ifCond .ge 6, 3) := by decide +kernel
theorem dX9_shift_34 : decode cX9_shift 34 = .ok (.bipush (-11), 2) := by decide +kernel
theorem dX9_shift_36 : decode cX9_shift 36 = .ok (.ireturn, 1) := by decide +kernel
theorem dX9_shift_37 : decode cX9_shift 37 = .ok (.aload_n 0, 1) := by decide +kernel
theorem dX9_shift_38 : decode cX9_shift 38 = .ok (.getfield 88, 3) := by decide +kernel
theorem dX9_shift_41 : decode cX9_shift 41 = .ok (.iload_n 1, 1) := by decide +kernel
theorem dX9_shift_42 : decode cX9_shift 42 = .ok (.iaload, 1) := by decide +kernel
theorem dX9_shift_43 : decode cX9_shift 43 = .ok (.bipush 50, 2) := by decide +kernel
theorem dX9_shift_45 : decode cX9_shift 45 = .ok (.if_icmp .lt 18, 3) := by decide +kernel
theorem dX9_shift_48 : decode cX9_shift 48 = .ok (.aload_n 0, 1) := by decide +kernel
theorem dX9_shift_49 : decode cX9_shift 49 = .ok (.getfield 88, 3) := by decide +kernel
theorem dX9_shift_52 : decode cX9_shift 52 = .ok (.iload_n 1, 1) := by decide +kernel
theorem dX9_shift_53 : decode cX9_shift 53 = .ok (.iaload, 1) := by decide +kernel
theorem dX9_shift_54 : decode cX9_shift 54 = .ok (.aload_n 0, 1) := by decide +kernel
theorem dX9_shift_55 : decode cX9_shift 55 = .ok (.getfield 88, 3) := by decide +kernel
theorem dX9_shift_58 : decode cX9_shift 58 = .ok (.iload_n 3, 1) := by decide +kernel
theorem dX9_shift_59 : decode cX9_shift 59 = .ok (.iaload, 1) := by decide +kernel
theorem dX9_shift_60 : decode cX9_shift 60 = .ok (.if_icmp .eq 6, 3) := by decide +kernel
theorem dX9_shift_63 : decode cX9_shift 63 = .ok (.bipush (-12), 2) := by decide +kernel
theorem dX9_shift_65 : decode cX9_shift 65 = .ok (.ireturn, 1) := by decide +kernel
theorem dX9_shift_66 : decode cX9_shift 66 = .ok (.iload 5, 2) := by decide +kernel
theorem dX9_shift_68 : decode cX9_shift 68 = .ok (.ifCond .lt 39, 3) := by decide +kernel
theorem dX9_shift_71 : decode cX9_shift 71 = .ok (.iload_n 2, 1) := by decide +kernel
theorem dX9_shift_72 : decode cX9_shift 72 = .ok (.ifCond .lt 35, 3) := by decide +kernel
theorem dX9_shift_75 : decode cX9_shift 75 = .ok (.iload 4, 2) := by decide +kernel
theorem dX9_shift_77 : decode cX9_shift 77 = .ok (.ifCond .lt 30, 3) := by decide +kernel
theorem dX9_shift_80 : decode cX9_shift 80 = .ok (.iload_n 2, 1) := by decide +kernel
theorem dX9_shift_81 : decode cX9_shift 81 = .ok (.aload_n 0, 1) := by decide +kernel
theorem dX9_shift_82 : decode cX9_shift 82 = .ok (.getfield 91, 3) := by decide +kernel
theorem dX9_shift_85 : decode cX9_shift 85 = .ok (.iload_n 1, 1) := by decide +kernel
theorem dX9_shift_86 : decode cX9_shift 86 = .ok (.iaload, 1) := by decide +kernel
theorem dX9_shift_87 : decode cX9_shift 87 = .ok (.iload 5, 2) := by decide +kernel
theorem dX9_shift_89 : decode cX9_shift 89 = .ok (.isub, 1) := by decide +kernel
theorem dX9_shift_90 : decode cX9_shift 90 = .ok (.if_icmp .gt 17, 3) := by decide +kernel
theorem dX9_shift_93 : decode cX9_shift 93 = .ok (.iload 4, 2) := by decide +kernel
theorem dX9_shift_95 : decode cX9_shift 95 = .ok (.aload_n 0, 1) := by decide +kernel
theorem dX9_shift_96 : decode cX9_shift 96 = .ok (.getfield 91, 3) := by decide +kernel
theorem dX9_shift_99 : decode cX9_shift 99 = .ok (.iload_n 3, 1) := by decide +kernel
theorem dX9_shift_100 : decode cX9_shift 100 = .ok (.iaload, 1) := by decide +kernel
theorem dX9_shift_101 : decode cX9_shift 101 = .ok (.iload 5, 2) := by decide +kernel
theorem dX9_shift_103 : decode cX9_shift 103 = .ok (.isub, 1) := by decide +kernel
theorem dX9_shift_104 : decode cX9_shift 104 = .ok (.if_icmp .le 6, 3) := by decide +kernel
theorem dX9_shift_107 : decode cX9_shift 107 = .ok (.bipush (-13), 2) := by decide +kernel
theorem dX9_shift_109 : decode cX9_shift 109 = .ok (.ireturn, 1) := by decide +kernel
theorem dX9_shift_110 : decode cX9_shift 110 = .ok (.iconst 0, 1) := by decide +kernel
theorem dX9_shift_111 : decode cX9_shift 111 = .ok (.istore 6, 2) := by decide +kernel
theorem dX9_shift_113 : decode cX9_shift 113 = .ok (.iload 6, 2) := by decide +kernel
theorem dX9_shift_115 : decode cX9_shift 115 = .ok (.iload 5, 2) := by decide +kernel
theorem dX9_shift_117 : decode cX9_shift 117 = .ok (.if_icmp .ge 30, 3) := by decide +kernel
theorem dX9_shift_120 : decode cX9_shift 120 = .ok (.aload_n 0, 1) := by decide +kernel
theorem dX9_shift_121 : decode cX9_shift 121 = .ok (.getfield 98, 3) := by decide +kernel
theorem dX9_shift_124 : decode cX9_shift 124 = .ok (.iload 6, 2) := by decide +kernel
theorem dX9_shift_126 : decode cX9_shift 126 = .ok (.aload_n 0, 1) := by decide +kernel
theorem dX9_shift_127 : decode cX9_shift 127 = .ok (.getfield 94, 3) := by decide +kernel
theorem dX9_shift_130 : decode cX9_shift 130 = .ok (.bipush 60, 2) := by decide +kernel
theorem dX9_shift_132 : decode cX9_shift 132 = .ok (.iload_n 1, 1) := by decide +kernel
theorem dX9_shift_133 : decode cX9_shift 133 = .ok (.imul, 1) := by decide +kernel
theorem dX9_shift_134 : decode cX9_shift 134 = .ok (.iload_n 2, 1) := by decide +kernel
theorem dX9_shift_135 : decode cX9_shift 135 = .ok (.iadd, 1) := by decide +kernel
theorem dX9_shift_136 : decode cX9_shift 136 = .ok (.iload 6, 2) := by decide +kernel
theorem dX9_shift_138 : decode cX9_shift 138 = .ok (.iadd, 1) := by decide +kernel
theorem dX9_shift_139 : decode cX9_shift 139 = .ok (.laload, 1) := by decide +kernel
theorem dX9_shift_140 : decode cX9_shift 140 = .ok (.lastore, 1) := by decide +kernel
theorem dX9_shift_141 : decode cX9_shift 141 = .ok (.iinc 6 1, 3) := by decide +kernel
theorem dX9_shift_144 : decode cX9_shift 144 = .ok (.goto (-31), 3) := by decide +kernel
theorem dX9_shift_147 : decode cX9_shift 147 = .ok (.iconst 0, 1) := by decide +kernel
theorem dX9_shift_148 : decode cX9_shift 148 = .ok (.istore 6, 2) := by decide +kernel
theorem dX9_shift_150 : decode cX9_shift 150 = .ok (.iload 6, 2) := by decide +kernel
theorem dX9_shift_152 : decode cX9_shift 152 = .ok (.iload 5, 2) := by decide +kernel
theorem dX9_shift_154 : decode cX9_shift 154 = .ok (.if_icmp .ge 31, 3) := by decide +kernel
theorem dX9_shift_157 : decode cX9_shift 157 = .ok (.aload_n 0, 1) := by decide +kernel
theorem dX9_shift_158 : decode cX9_shift 158 = .ok (.getfield 94, 3) := by decide +kernel
theorem dX9_shift_161 : decode cX9_shift 161 = .ok (.bipush 60, 2) := by decide +kernel
theorem dX9_shift_163 : decode cX9_shift 163 = .ok (.iload_n 3, 1) := by decide +kernel
theorem dX9_shift_164 : decode cX9_shift 164 = .ok (.imul, 1) := by decide +kernel
theorem dX9_shift_165 : decode cX9_shift 165 = .ok (.iload 4, 2) := by decide +kernel
theorem dX9_shift_167 : decode cX9_shift 167 = .ok (.iadd, 1) := by decide +kernel
theorem dX9_shift_168 : decode cX9_shift 168 = .ok (.iload 6, 2) := by decide +kernel
theorem dX9_shift_170 : decode cX9_shift 170 = .ok (.iadd, 1) := by decide +kernel
theorem dX9_shift_171 : decode cX9_shift 171 = .ok (.aload_n 0, 1) := by decide +kernel
theorem dX9_shift_172 : decode cX9_shift 172 = .ok (.getfield 98, 3) := by decide +kernel
theorem dX9_shift_175 : decode cX9_shift 175 = .ok (.iload 6, 2) := by decide +kernel
theorem dX9_shift_177 : decode cX9_shift 177 = .ok (.laload, 1) := by decide +kernel
theorem dX9_shift_178 : decode cX9_shift 178 = .ok (.lastore, 1) := by decide +kernel
theorem dX9_shift_179 : decode cX9_shift 179 = .ok (.iinc 6 1, 3) := by decide +kernel
theorem dX9_shift_182 : decode cX9_shift 182 = .ok (.goto (-32), 3) := by decide +kernel
theorem dX9_shift_185 : decode cX9_shift 185 = .ok (.iload 5, 2) := by decide +kernel
theorem dX9_shift_187 : decode cX9_shift 187 = .ok (.ireturn, 1) := by decide +kernel
theorem dX9_taken_0 : decode cX9_taken 0 = .ok (.iload_n 1, 1) := by decide +kernel
theorem dX9_taken_1 : decode cX9_taken 1 = .ok (.invokestatic 134, 3) := by decide +kernel
theorem dX9_taken_4 : decode cX9_taken 4 = .ok (.ifCond .eq 15, 3) := by decide +kernel
theorem dX9_taken_7 : decode cX9_taken 7 = .ok (.iload_n 2, 1) := by decide +kernel
theorem dX9_taken_8 : decode cX9_taken 8 = .ok (.i2l, 1) := by decide +kernel
theorem dX9_taken_9 : decode cX9_taken 9 = .ok (.lconst 0, 1) := by decide +kernel
theorem dX9_taken_10 : decode cX9_taken 10 = .ok (.ldc2_w 330, 3) := by decide +kernel
theorem dX9_taken_13 : decode cX9_taken 13 = .ok (.invokestatic 114, 3) := by decide +kernel
theorem dX9_taken_16 : decode cX9_taken 16 = .ok (.ifCond .ne 5, 3) := by decide +kernel
theorem dX9_taken_19 : decode cX9_taken 19 = .ok (.iconst (-1), 1) := by decide +kernel
theorem dX9_taken_20 : decode cX9_taken 20 = .ok (.ireturn, 1) := by decide +kernel
theorem dX9_taken_21 : decode cX9_taken 21 = .ok (.aload_n 0, 1) := by decide +kernel
theorem dX9_taken_22 : decode cX9_taken 22 = .ok (.getfield 88, 3) := by decide +kernel
theorem dX9_taken_25 : decode cX9_taken 25 = .ok (.iload_n 1, 1) := by decide +kernel
theorem dX9_taken_26 : decode cX9_taken 26 = .ok (.iaload, 1) := by decide +kernel
theorem dX9_taken_27 : decode cX9_taken 27 = .ok (.ifCond .ge 6, 3) := by decide +kernel
theorem dX9_taken_30 : decode cX9_taken 30 = .ok (.bipush (-11), 2) := by decide +kernel
theorem dX9_taken_32 : decode cX9_taken 32 = .ok (.ireturn, 1) := by decide +kernel
theorem dX9_taken_33 : decode cX9_taken 33 = .ok (.aload_n 0, 1) := by decide +kernel
theorem dX9_taken_34 : decode cX9_taken 34 = .ok (.getfield 88, 3) := by decide +kernel
theorem dX9_taken_37 : decode cX9_taken 37 = .ok (.iload_n 1, 1) := by decide +kernel
theorem dX9_taken_38 : decode cX9_taken 38 = .ok (.iaload, 1) := by decide +kernel
theorem dX9_taken_39 : decode cX9_taken 39 = .ok (.bipush 50, 2) := by decide +kernel
theorem dX9_taken_41 : decode cX9_taken 41 = .ok (.if_icmp .lt 6, 3) := by decide +kernel
theorem dX9_taken_44 : decode cX9_taken 44 = .ok (.bipush (-12), 2) := by decide +kernel
theorem dX9_taken_46 : decode cX9_taken 46 = .ok (.ireturn, 1) := by decide +kernel
theorem dX9_taken_47 : decode cX9_taken 47 = .ok (.aload_n 0, 1) := by decide +kernel
theorem dX9_taken_48 : decode cX9_taken 48 = .ok (.aload_n 0, 1) := by decide +kernel
theorem dX9_taken_49 : decode cX9_taken 49 = .ok (.getfield 88, 3) := by decide +kernel
theorem dX9_taken_52 : decode cX9_taken 52 = .ok (.iload_n 1, 1) := by decide +kernel
theorem dX9_taken_53 : decode cX9_taken 53 = .ok (.iaload, 1) := by decide +kernel
theorem dX9_taken_54 : decode cX9_taken 54 = .ok (.invokevirtual 372, 3) := by decide +kernel
theorem dX9_taken_57 : decode cX9_taken 57 = .ok (.istore_n 3, 1) := by decide +kernel
theorem dX9_taken_58 : decode cX9_taken 58 = .ok (.iload_n 3, 1) := by decide +kernel
theorem dX9_taken_59 : decode cX9_taken 59 = .ok (.iload_n 2, 1) := by decide +kernel
theorem dX9_taken_60 : decode cX9_taken 60 = .ok (.if_icmp .eq 15, 3) := by decide +kernel
theorem dX9_taken_63 : decode cX9_taken 63 = .ok (.iload_n 3, 1) := by decide +kernel
theorem dX9_taken_64 : decode cX9_taken 64 = .ok (.ifCond .le 11, 3) := by decide +kernel
theorem dX9_taken_67 : decode cX9_taken 67 = .ok (.iload_n 3, 1) := by decide +kernel
theorem dX9_taken_68 : decode cX9_taken 68 = .ok (.invokestatic 375, 3) := by decide +kernel
theorem dX9_taken_71 : decode cX9_taken 71 = .ok (.istore_n 3, 1) := by decide +kernel
theorem dX9_taken_72 : decode cX9_taken 72 = .ok (.goto (-14), 3) := by decide +kernel
theorem dX9_taken_75 : decode cX9_taken 75 = .ok (.iload_n 3, 1) := by decide +kernel
theorem dX9_taken_76 : decode cX9_taken 76 = .ok (.iload_n 2, 1) := by decide +kernel
theorem dX9_taken_77 : decode cX9_taken 77 = .ok (.if_icmp .ne 16, 3) := by decide +kernel
theorem dX9_taken_80 : decode cX9_taken 80 = .ok (.aload_n 0, 1) := by decide +kernel
theorem dX9_taken_81 : decode cX9_taken 81 = .ok (.aload_n 0, 1) := by decide +kernel
theorem dX9_taken_82 : decode cX9_taken 82 = .ok (.getfield 88, 3) := by decide +kernel
theorem dX9_taken_85 : decode cX9_taken 85 = .ok (.iload_n 1, 1) := by decide +kernel
theorem dX9_taken_86 : decode cX9_taken 86 = .ok (.iaload, 1) := by decide +kernel
theorem dX9_taken_87 : decode cX9_taken 87 = .ok (.invokevirtual 372, 3) := by decide +kernel
theorem dX9_taken_90 : decode cX9_taken 90 = .ok (.goto 5, 3) := by decide +kernel
theorem dX9_taken_93 : decode cX9_taken 93 = .ok (.bipush (-12), 2) := by decide +kernel
theorem dX9_taken_95 : decode cX9_taken 95 = .ok (.ireturn, 1) := by decide +kernel
theorem dX9_count_0 : decode cX9_count 0 = .ok (.iload_n 1, 1) := by decide +kernel
theorem dX9_count_1 : decode cX9_count 1 = .ok (.tableswitch 87 0 7 #[47, 52, 57, 62, 67, 72, 77, 82], 47) := by decide +kernel
theorem dX9_count_48 : decode cX9_count 48 = .ok (.aload_n 0, 1) := by decide +kernel
theorem dX9_count_49 : decode cX9_count 49 = .ok (.getfield 111, 3) := by decide +kernel
theorem dX9_count_52 : decode cX9_count 52 = .ok (.ireturn, 1) := by decide +kernel
theorem dX9_count_53 : decode cX9_count 53 = .ok (.aload_n 0, 1) := by decide +kernel
theorem dX9_count_54 : decode cX9_count 54 = .ok (.invokevirtual 118, 3) := by decide +kernel
theorem dX9_count_57 : decode cX9_count 57 = .ok (.ireturn, 1) := by decide +kernel
theorem dX9_count_58 : decode cX9_count 58 = .ok (.aload_n 0, 1) := by decide +kernel
theorem dX9_count_59 : decode cX9_count 59 = .ok (.getfield 127, 3) := by decide +kernel
theorem dX9_count_62 : decode cX9_count 62 = .ok (.ireturn, 1) := by decide +kernel
theorem dX9_count_63 : decode cX9_count 63 = .ok (.aload_n 0, 1) := by decide +kernel
theorem dX9_count_64 : decode cX9_count 64 = .ok (.getfield 274, 3) := by decide +kernel
theorem dX9_count_67 : decode cX9_count 67 = .ok (.ireturn, 1) := by decide +kernel
theorem dX9_count_68 : decode cX9_count 68 = .ok (.aload_n 0, 1) := by decide +kernel
theorem dX9_count_69 : decode cX9_count 69 = .ok (.getfield 173, 3) := by decide +kernel
theorem dX9_count_72 : decode cX9_count 72 = .ok (.ireturn, 1) := by decide +kernel
theorem dX9_count_73 : decode cX9_count 73 = .ok (.aload_n 0, 1) := by decide +kernel
theorem dX9_count_74 : decode cX9_count 74 = .ok (.getfield 105, 3) := by decide +kernel
theorem dX9_count_77 : decode cX9_count 77 = .ok (.ireturn, 1) := by decide +kernel
theorem dX9_count_78 : decode cX9_count 78 = .ok (.aload_n 0, 1) := by decide +kernel
theorem dX9_count_79 : decode cX9_count 79 = .ok (.getfield 327, 3) := by decide +kernel
theorem dX9_count_82 : decode cX9_count 82 = .ok (.ireturn, 1) := by decide +kernel
theorem dX9_count_83 : decode cX9_count 83 = .ok (.aload_n 0, 1) := by decide +kernel
theorem dX9_count_84 : decode cX9_count 84 = .ok (.getfield 332, 3) := by decide +kernel
theorem dX9_count_87 : decode cX9_count 87 = .ok (.ireturn, 1) := by decide +kernel
theorem dX9_count_88 : decode cX9_count 88 = .ok (.iconst (-1), 1) := by decide +kernel
theorem dX9_count_89 : decode cX9_count 89 = .ok (.ireturn, 1) := by decide +kernel
theorem dJ9_abs_0f7a4_0 : decode cJ9_abs_0f7a4 0 = .ok (.iload_n 0, 1) := by decide +kernel
theorem dJ9_abs_0f7a4_1 : decode cJ9_abs_0f7a4 1 = .ok (.ifCond .ge 8, 3) := by decide +kernel
theorem dJ9_abs_0f7a4_4 : decode cJ9_abs_0f7a4 4 = .ok (.iload_n 0, 1) := by decide +kernel
theorem dJ9_abs_0f7a4_5 : decode cJ9_abs_0f7a4 5 = .ok (.ineg, 1) := by decide +kernel
theorem dJ9_abs_0f7a4_6 : decode cJ9_abs_0f7a4 6 = .ok (.goto 4, 3) := by decide +kernel
theorem dJ9_abs_0f7a4_9 : decode cJ9_abs_0f7a4 9 = .ok (.iload_n 0, 1) := by decide +kernel
theorem dJ9_abs_0f7a4_10 : decode cJ9_abs_0f7a4 10 = .ok (.ireturn, 1) := by decide +kernel
theorem dJ9_max_7cf53_0 : decode cJ9_max_7cf53 0 = .ok (.iload_n 0, 1) := by decide +kernel
theorem dJ9_max_7cf53_1 : decode cJ9_max_7cf53 1 = .ok (.iload_n 1, 1) := by decide +kernel
theorem dJ9_max_7cf53_2 : decode cJ9_max_7cf53 2 = .ok (.if_icmp .lt 7, 3) := by decide +kernel
theorem dJ9_max_7cf53_5 : decode cJ9_max_7cf53 5 = .ok (.iload_n 0, 1) := by decide +kernel
theorem dJ9_max_7cf53_6 : decode cJ9_max_7cf53 6 = .ok (.goto 4, 3) := by decide +kernel
theorem dJ9_max_7cf53_9 : decode cJ9_max_7cf53 9 = .ok (.iload_n 1, 1) := by decide +kernel
theorem dJ9_max_7cf53_10 : decode cJ9_max_7cf53 10 = .ok (.ireturn, 1) := by decide +kernel
theorem dJ9_min_7cf53_0 : decode cJ9_min_7cf53 0 = .ok (.iload_n 0, 1) := by decide +kernel
theorem dJ9_min_7cf53_1 : decode cJ9_min_7cf53 1 = .ok (.iload_n 1, 1) := by decide +kernel
theorem dJ9_min_7cf53_2 : decode cJ9_min_7cf53 2 = .ok (.if_icmp .gt 7, 3) := by decide +kernel
theorem dJ9_min_7cf53_5 : decode cJ9_min_7cf53 5 = .ok (.iload_n 0, 1) := by decide +kernel
theorem dJ9_min_7cf53_6 : decode cJ9_min_7cf53 6 = .ok (.goto 4, 3) := by decide +kernel
theorem dJ9_min_7cf53_9 : decode cJ9_min_7cf53 9 = .ok (.iload_n 1, 1) := by decide +kernel
theorem dJ9_min_7cf53_10 : decode cJ9_min_7cf53 10 = .ok (.ireturn, 1) := by decide +kernel
theorem dJ7_fill_d0a16_0 : decode cJ7_fill_d0a16 0 = .ok (.iconst 0, 1) := by decide +kernel
theorem dJ7_fill_d0a16_1 : decode cJ7_fill_d0a16 1 = .ok (.istore_n 3, 1) := by decide +kernel
theorem dJ7_fill_d0a16_2 : decode cJ7_fill_d0a16 2 = .ok (.aload_n 0, 1) := by decide +kernel
theorem dJ7_fill_d0a16_3 : decode cJ7_fill_d0a16 3 = .ok (.arraylength, 1) := by decide +kernel
theorem dJ7_fill_d0a16_4 : decode cJ7_fill_d0a16 4 = .ok (.istore 4, 2) := by decide +kernel
theorem dJ7_fill_d0a16_6 : decode cJ7_fill_d0a16 6 = .ok (.iload_n 3, 1) := by decide +kernel
theorem dJ7_fill_d0a16_7 : decode cJ7_fill_d0a16 7 = .ok (.iload 4, 2) := by decide +kernel
theorem dJ7_fill_d0a16_9 : decode cJ7_fill_d0a16 9 = .ok (.if_icmp .ge 13, 3) := by decide +kernel
theorem dJ7_fill_d0a16_12 : decode cJ7_fill_d0a16 12 = .ok (.aload_n 0, 1) := by decide +kernel
theorem dJ7_fill_d0a16_13 : decode cJ7_fill_d0a16 13 = .ok (.iload_n 3, 1) := by decide +kernel
theorem dJ7_fill_d0a16_14 : decode cJ7_fill_d0a16 14 = .ok (.lload_n 1, 1) := by decide +kernel
theorem dJ7_fill_d0a16_15 : decode cJ7_fill_d0a16 15 = .ok (.lastore, 1) := by decide +kernel
theorem dJ7_fill_d0a16_16 : decode cJ7_fill_d0a16 16 = .ok (.iinc 3 1, 3) := by decide +kernel
theorem dJ7_fill_d0a16_19 : decode cJ7_fill_d0a16 19 = .ok (.goto (-13), 3) := by decide +kernel
theorem dJ7_fill_d0a16_22 : decode cJ7_fill_d0a16 22 = .ok (.return_, 1) := by decide +kernel
theorem dJ7_fill_53178_0 : decode cJ7_fill_53178 0 = .ok (.iconst 0, 1) := by decide +kernel
theorem dJ7_fill_53178_1 : decode cJ7_fill_53178 1 = .ok (.istore_n 2, 1) := by decide +kernel
theorem dJ7_fill_53178_2 : decode cJ7_fill_53178 2 = .ok (.aload_n 0, 1) := by decide +kernel
theorem dJ7_fill_53178_3 : decode cJ7_fill_53178 3 = .ok (.arraylength, 1) := by decide +kernel
theorem dJ7_fill_53178_4 : decode cJ7_fill_53178 4 = .ok (.istore_n 3, 1) := by decide +kernel
theorem dJ7_fill_53178_5 : decode cJ7_fill_53178 5 = .ok (.iload_n 2, 1) := by decide +kernel
theorem dJ7_fill_53178_6 : decode cJ7_fill_53178 6 = .ok (.iload_n 3, 1) := by decide +kernel
theorem dJ7_fill_53178_7 : decode cJ7_fill_53178 7 = .ok (.if_icmp .ge 13, 3) := by decide +kernel
theorem dJ7_fill_53178_10 : decode cJ7_fill_53178 10 = .ok (.aload_n 0, 1) := by decide +kernel
theorem dJ7_fill_53178_11 : decode cJ7_fill_53178 11 = .ok (.iload_n 2, 1) := by decide +kernel
theorem dJ7_fill_53178_12 : decode cJ7_fill_53178 12 = .ok (.iload_n 1, 1) := by decide +kernel
theorem dJ7_fill_53178_13 : decode cJ7_fill_53178 13 = .ok (.iastore, 1) := by decide +kernel
theorem dJ7_fill_53178_14 : decode cJ7_fill_53178 14 = .ok (.iinc 2 1, 3) := by decide +kernel
theorem dJ7_fill_53178_17 : decode cJ7_fill_53178 17 = .ok (.goto (-12), 3) := by decide +kernel
theorem dJ7_fill_53178_20 : decode cJ7_fill_53178 20 = .ok (.return_, 1) := by decide +kernel
theorem dL_law_0 : decode cL_law 0 = .ok (.new 7, 3) := by decide +kernel
theorem dL_law_3 : decode cL_law 3 = .ok (.dup, 1) := by decide +kernel
theorem dL_law_4 : decode cL_law 4 = .ok (.invokespecial 9, 3) := by decide +kernel
theorem dL_law_7 : decode cL_law 7 = .ok (.astore_n 1, 1) := by decide +kernel
theorem dL_law_8 : decode cL_law 8 = .ok (.new 10, 3) := by decide +kernel
theorem dL_law_11 : decode cL_law 11 = .ok (.dup, 1) := by decide +kernel
theorem dL_law_12 : decode cL_law 12 = .ok (.invokespecial 12, 3) := by decide +kernel
theorem dL_law_15 : decode cL_law 15 = .ok (.astore_n 2, 1) := by decide +kernel
theorem dL_law_16 : decode cL_law 16 = .ok (.iconst 0, 1) := by decide +kernel
theorem dL_law_17 : decode cL_law 17 = .ok (.istore_n 3, 1) := by decide +kernel
theorem dL_law_18 : decode cL_law 18 = .ok (.iload_n 3, 1) := by decide +kernel
theorem dL_law_19 : decode cL_law 19 = .ok (.aload_n 0, 1) := by decide +kernel
theorem dL_law_20 : decode cL_law 20 = .ok (.arraylength, 1) := by decide +kernel
theorem dL_law_21 : decode cL_law 21 = .ok (.bipush 6, 2) := by decide +kernel
theorem dL_law_23 : decode cL_law 23 = .ok (.isub, 1) := by decide +kernel
theorem dL_law_24 : decode cL_law 24 = .ok (.if_icmp .gt 1313, 3) := by decide +kernel
theorem dL_law_27 : decode cL_law 27 = .ok (.aload_n 0, 1) := by decide +kernel
theorem dL_law_28 : decode cL_law 28 = .ok (.iload_n 3, 1) := by decide +kernel
theorem dL_law_29 : decode cL_law 29 = .ok (.iaload, 1) := by decide +kernel
theorem dL_law_30 : decode cL_law 30 = .ok (.bipush 63, 2) := by decide +kernel
theorem dL_law_32 : decode cL_law 32 = .ok (.iand, 1) := by decide +kernel
theorem dL_law_33 : decode cL_law 33 = .ok (.tableswitch 1298 0 35 #[159, 182, 225, 258, 301, 344, 377, 400, 413, 446, 489, 522, 555, 588, 601, 654, 677, 710, 733, 766, 799, 832, 855, 868, 881, 894, 907, 930, 973, 996, 1029, 1072, 1145, 1179, 1242, 1275], 159) := by decide +kernel
theorem dL_law_192 : decode cL_law 192 = .ok (.aload_n 1, 1) := by decide +kernel
theorem dL_law_193 : decode cL_law 193 = .ok (.aload_n 0, 1) := by decide +kernel
theorem dL_law_194 : decode cL_law 194 = .ok (.iload_n 3, 1) := by decide +kernel
theorem dL_law_195 : decode cL_law 195 = .ok (.iconst 1, 1) := by decide +kernel
theorem dL_law_196 : decode cL_law 196 = .ok (.iadd, 1) := by decide +kernel
theorem dL_law_197 : decode cL_law 197 = .ok (.iaload, 1) := by decide +kernel
theorem dL_law_198 : decode cL_law 198 = .ok (.invokevirtual 13, 3) := by decide +kernel
theorem dL_law_201 : decode cL_law 201 = .ok (.aload_n 2, 1) := by decide +kernel
theorem dL_law_202 : decode cL_law 202 = .ok (.aload_n 0, 1) := by decide +kernel
theorem dL_law_203 : decode cL_law 203 = .ok (.iload_n 3, 1) := by decide +kernel
theorem dL_law_204 : decode cL_law 204 = .ok (.iconst 1, 1) := by decide +kernel
theorem dL_law_205 : decode cL_law 205 = .ok (.iadd, 1) := by decide +kernel
theorem dL_law_206 : decode cL_law 206 = .ok (.iaload, 1) := by decide +kernel
theorem dL_law_207 : decode cL_law 207 = .ok (.invokevirtual 17, 3) := by decide +kernel
theorem dL_law_210 : decode cL_law 210 = .ok (.if_icmp .eq 1121, 3) := by decide +kernel
theorem dL_law_213 : decode cL_law 213 = .ok (.iconst 0, 1) := by decide +kernel
theorem dL_law_214 : decode cL_law 214 = .ok (.ireturn, 1) := by decide +kernel
theorem dL_law_215 : decode cL_law 215 = .ok (.aload_n 1, 1) := by decide +kernel
theorem dL_law_216 : decode cL_law 216 = .ok (.aload_n 0, 1) := by decide +kernel
theorem dL_law_217 : decode cL_law 217 = .ok (.iload_n 3, 1) := by decide +kernel
theorem dL_law_218 : decode cL_law 218 = .ok (.iconst 1, 1) := by decide +kernel
theorem dL_law_219 : decode cL_law 219 = .ok (.iadd, 1) := by decide +kernel
theorem dL_law_220 : decode cL_law 220 = .ok (.iaload, 1) := by decide +kernel
theorem dL_law_221 : decode cL_law 221 = .ok (.aload_n 0, 1) := by decide +kernel
theorem dL_law_222 : decode cL_law 222 = .ok (.iload_n 3, 1) := by decide +kernel
theorem dL_law_223 : decode cL_law 223 = .ok (.iconst 2, 1) := by decide +kernel
theorem dL_law_224 : decode cL_law 224 = .ok (.iadd, 1) := by decide +kernel
theorem dL_law_225 : decode cL_law 225 = .ok (.iaload, 1) := by decide +kernel
theorem dL_law_226 : decode cL_law 226 = .ok (.aload_n 0, 1) := by decide +kernel
theorem dL_law_227 : decode cL_law 227 = .ok (.iload_n 3, 1) := by decide +kernel
theorem dL_law_228 : decode cL_law 228 = .ok (.iconst 3, 1) := by decide +kernel
theorem dL_law_229 : decode cL_law 229 = .ok (.iadd, 1) := by decide +kernel
theorem dL_law_230 : decode cL_law 230 = .ok (.iaload, 1) := by decide +kernel
theorem dL_law_231 : decode cL_law 231 = .ok (.invokevirtual 18, 3) := by decide +kernel
theorem dL_law_234 : decode cL_law 234 = .ok (.aload_n 2, 1) := by decide +kernel
theorem dL_law_235 : decode cL_law 235 = .ok (.aload_n 0, 1) := by decide +kernel
theorem dL_law_236 : decode cL_law 236 = .ok (.iload_n 3, 1) := by decide +kernel
theorem dL_law_237 : decode cL_law 237 = .ok (.iconst 1, 1) := by decide +kernel
theorem dL_law_238 : decode cL_law 238 = .ok (.iadd, 1) := by decide +kernel
theorem dL_law_239 : decode cL_law 239 = .ok (.iaload, 1) := by decide +kernel
theorem dL_law_240 : decode cL_law 240 = .ok (.aload_n 0, 1) := by decide +kernel
theorem dL_law_241 : decode cL_law 241 = .ok (.iload_n 3, 1) := by decide +kernel
theorem dL_law_242 : decode cL_law 242 = .ok (.iconst 2, 1) := by decide +kernel
theorem dL_law_243 : decode cL_law 243 = .ok (.iadd, 1) := by decide +kernel
theorem dL_law_244 : decode cL_law 244 = .ok (.iaload, 1) := by decide +kernel
theorem dL_law_245 : decode cL_law 245 = .ok (.aload_n 0, 1) := by decide +kernel
theorem dL_law_246 : decode cL_law 246 = .ok (.iload_n 3, 1) := by decide +kernel
theorem dL_law_247 : decode cL_law 247 = .ok (.iconst 3, 1) := by decide +kernel
theorem dL_law_248 : decode cL_law 248 = .ok (.iadd, 1) := by decide +kernel
theorem dL_law_249 : decode cL_law 249 = .ok (.iaload, 1) := by decide +kernel
theorem dL_law_250 : decode cL_law 250 = .ok (.invokevirtual 22, 3) := by decide +kernel
theorem dL_law_253 : decode cL_law 253 = .ok (.if_icmp .eq 1078, 3) := by decide +kernel
theorem dL_law_256 : decode cL_law 256 = .ok (.iconst 0, 1) := by decide +kernel
theorem dL_law_257 : decode cL_law 257 = .ok (.ireturn, 1) := by decide +kernel
theorem dL_law_258 : decode cL_law 258 = .ok (.aload_n 1, 1) := by decide +kernel
theorem dL_law_259 : decode cL_law 259 = .ok (.aload_n 0, 1) := by decide +kernel
theorem dL_law_260 : decode cL_law 260 = .ok (.iload_n 3, 1) := by decide +kernel
theorem dL_law_261 : decode cL_law 261 = .ok (.iconst 1, 1) := by decide +kernel
theorem dL_law_262 : decode cL_law 262 = .ok (.iadd, 1) := by decide +kernel
theorem dL_law_263 : decode cL_law 263 = .ok (.iaload, 1) := by decide +kernel
theorem dL_law_264 : decode cL_law 264 = .ok (.aload_n 0, 1) := by decide +kernel
theorem dL_law_265 : decode cL_law 265 = .ok (.iload_n 3, 1) := by decide +kernel
theorem dL_law_266 : decode cL_law 266 = .ok (.iconst 2, 1) := by decide +kernel
theorem dL_law_267 : decode cL_law 267 = .ok (.iadd, 1) := by decide +kernel
theorem dL_law_268 : decode cL_law 268 = .ok (.iaload, 1) := by decide +kernel
theorem dL_law_269 : decode cL_law 269 = .ok (.invokevirtual 23, 3) := by decide +kernel
theorem dL_law_272 : decode cL_law 272 = .ok (.aload_n 2, 1) := by decide +kernel
theorem dL_law_273 : decode cL_law 273 = .ok (.aload_n 0, 1) := by decide +kernel
theorem dL_law_274 : decode cL_law 274 = .ok (.iload_n 3, 1) := by decide +kernel
theorem dL_law_275 : decode cL_law 275 = .ok (.iconst 1, 1) := by decide +kernel
theorem dL_law_276 : decode cL_law 276 = .ok (.iadd, 1) := by decide +kernel
theorem dL_law_277 : decode cL_law 277 = .ok (.iaload, 1) := by decide +kernel
theorem dL_law_278 : decode cL_law 278 = .ok (.aload_n 0, 1) := by decide +kernel
theorem dL_law_279 : decode cL_law 279 = .ok (.iload_n 3, 1) := by decide +kernel
theorem dL_law_280 : decode cL_law 280 = .ok (.iconst 2, 1) := by decide +kernel
theorem dL_law_281 : decode cL_law 281 = .ok (.iadd, 1) := by decide +kernel
theorem dL_law_282 : decode cL_law 282 = .ok (.iaload, 1) := by decide +kernel
theorem dL_law_283 : decode cL_law 283 = .ok (.invokevirtual 27, 3) := by decide +kernel
theorem dL_law_286 : decode cL_law 286 = .ok (.if_icmp .eq 1045, 3) := by decide +kernel
theorem dL_law_289 : decode cL_law 289 = .ok (.iconst 0, 1) := by decide +kernel
theorem dL_law_290 : decode cL_law 290 = .ok (.ireturn, 1) := by decide +kernel
theorem dL_law_291 : decode cL_law 291 = .ok (.aload_n 1, 1) := by decide +kernel
theorem dL_law_292 : decode cL_law 292 = .ok (.aload_n 0, 1) := by decide +kernel
theorem dL_law_293 : decode cL_law 293 = .ok (.iload_n 3, 1) := by decide +kernel
theorem dL_law_294 : decode cL_law 294 = .ok (.iconst 1, 1) := by decide +kernel
theorem dL_law_295 : decode cL_law 295 = .ok (.iadd, 1) := by decide +kernel
theorem dL_law_296 : decode cL_law 296 = .ok (.iaload, 1) := by decide +kernel
theorem dL_law_297 : decode cL_law 297 = .ok (.aload_n 0, 1) := by decide +kernel
theorem dL_law_298 : decode cL_law 298 = .ok (.iload_n 3, 1) := by decide +kernel
theorem dL_law_299 : decode cL_law 299 = .ok (.iconst 2, 1) := by decide +kernel
theorem dL_law_300 : decode cL_law 300 = .ok (.iadd, 1) := by decide +kernel
theorem dL_law_301 : decode cL_law 301 = .ok (.iaload, 1) := by decide +kernel
theorem dL_law_302 : decode cL_law 302 = .ok (.aload_n 0, 1) := by decide +kernel
theorem dL_law_303 : decode cL_law 303 = .ok (.iload_n 3, 1) := by decide +kernel
theorem dL_law_304 : decode cL_law 304 = .ok (.iconst 3, 1) := by decide +kernel
theorem dL_law_305 : decode cL_law 305 = .ok (.iadd, 1) := by decide +kernel
theorem dL_law_306 : decode cL_law 306 = .ok (.iaload, 1) := by decide +kernel
theorem dL_law_307 : decode cL_law 307 = .ok (.invokevirtual 28, 3) := by decide +kernel
theorem dL_law_310 : decode cL_law 310 = .ok (.aload_n 2, 1) := by decide +kernel
theorem dL_law_311 : decode cL_law 311 = .ok (.aload_n 0, 1) := by decide +kernel
theorem dL_law_312 : decode cL_law 312 = .ok (.iload_n 3, 1) := by decide +kernel
theorem dL_law_313 : decode cL_law 313 = .ok (.iconst 1, 1) := by decide +kernel
theorem dL_law_314 : decode cL_law 314 = .ok (.iadd, 1) := by decide +kernel
theorem dL_law_315 : decode cL_law 315 = .ok (.iaload, 1) := by decide +kernel
theorem dL_law_316 : decode cL_law 316 = .ok (.aload_n 0, 1) := by decide +kernel
theorem dL_law_317 : decode cL_law 317 = .ok (.iload_n 3, 1) := by decide +kernel
theorem dL_law_318 : decode cL_law 318 = .ok (.iconst 2, 1) := by decide +kernel
theorem dL_law_319 : decode cL_law 319 = .ok (.iadd, 1) := by decide +kernel
theorem dL_law_320 : decode cL_law 320 = .ok (.iaload, 1) := by decide +kernel
theorem dL_law_321 : decode cL_law 321 = .ok (.aload_n 0, 1) := by decide +kernel
theorem dL_law_322 : decode cL_law 322 = .ok (.iload_n 3, 1) := by decide +kernel
theorem dL_law_323 : decode cL_law 323 = .ok (.iconst 3, 1) := by decide +kernel
theorem dL_law_324 : decode cL_law 324 = .ok (.iadd, 1) := by decide +kernel
theorem dL_law_325 : decode cL_law 325 = .ok (.iaload, 1) := by decide +kernel
theorem dL_law_326 : decode cL_law 326 = .ok (.invokevirtual 31, 3) := by decide +kernel
theorem dL_law_329 : decode cL_law 329 = .ok (.if_icmp .eq 1002, 3) := by decide +kernel
theorem dL_law_332 : decode cL_law 332 = .ok (.iconst 0, 1) := by decide +kernel
theorem dL_law_333 : decode cL_law 333 = .ok (.ireturn, 1) := by decide +kernel
theorem dL_law_334 : decode cL_law 334 = .ok (.aload_n 1, 1) := by decide +kernel
theorem dL_law_335 : decode cL_law 335 = .ok (.aload_n 0, 1) := by decide +kernel
theorem dL_law_336 : decode cL_law 336 = .ok (.iload_n 3, 1) := by decide +kernel
theorem dL_law_337 : decode cL_law 337 = .ok (.iconst 1, 1) := by decide +kernel
theorem dL_law_338 : decode cL_law 338 = .ok (.iadd, 1) := by decide +kernel
theorem dL_law_339 : decode cL_law 339 = .ok (.iaload, 1) := by decide +kernel
theorem dL_law_340 : decode cL_law 340 = .ok (.aload_n 0, 1) := by decide +kernel
theorem dL_law_341 : decode cL_law 341 = .ok (.iload_n 3, 1) := by decide +kernel
theorem dL_law_342 : decode cL_law 342 = .ok (.iconst 2, 1) := by decide +kernel
theorem dL_law_343 : decode cL_law 343 = .ok (.iadd, 1) := by decide +kernel
theorem dL_law_344 : decode cL_law 344 = .ok (.iaload, 1) := by decide +kernel
theorem dL_law_345 : decode cL_law 345 = .ok (.aload_n 0, 1) := by decide +kernel
theorem dL_law_346 : decode cL_law 346 = .ok (.iload_n 3, 1) := by decide +kernel
theorem dL_law_347 : decode cL_law 347 = .ok (.iconst 3, 1) := by decide +kernel
theorem dL_law_348 : decode cL_law 348 = .ok (.iadd, 1) := by decide +kernel
theorem dL_law_349 : decode cL_law 349 = .ok (.iaload, 1) := by decide +kernel
theorem dL_law_350 : decode cL_law 350 = .ok (.invokevirtual 32, 3) := by decide +kernel
theorem dL_law_353 : decode cL_law 353 = .ok (.aload_n 2, 1) := by decide +kernel
theorem dL_law_354 : decode cL_law 354 = .ok (.aload_n 0, 1) := by decide +kernel
theorem dL_law_355 : decode cL_law 355 = .ok (.iload_n 3, 1) := by decide +kernel
theorem dL_law_356 : decode cL_law 356 = .ok (.iconst 1, 1) := by decide +kernel
theorem dL_law_357 : decode cL_law 357 = .ok (.iadd, 1) := by decide +kernel
theorem dL_law_358 : decode cL_law 358 = .ok (.iaload, 1) := by decide +kernel
theorem dL_law_359 : decode cL_law 359 = .ok (.aload_n 0, 1) := by decide +kernel
theorem dL_law_360 : decode cL_law 360 = .ok (.iload_n 3, 1) := by decide +kernel
theorem dL_law_361 : decode cL_law 361 = .ok (.iconst 2, 1) := by decide +kernel
theorem dL_law_362 : decode cL_law 362 = .ok (.iadd, 1) := by decide +kernel
theorem dL_law_363 : decode cL_law 363 = .ok (.iaload, 1) := by decide +kernel
theorem dL_law_364 : decode cL_law 364 = .ok (.aload_n 0, 1) := by decide +kernel
theorem dL_law_365 : decode cL_law 365 = .ok (.iload_n 3, 1) := by decide +kernel
theorem dL_law_366 : decode cL_law 366 = .ok (.iconst 3, 1) := by decide +kernel
theorem dL_law_367 : decode cL_law 367 = .ok (.iadd, 1) := by decide +kernel
theorem dL_law_368 : decode cL_law 368 = .ok (.iaload, 1) := by decide +kernel
theorem dL_law_369 : decode cL_law 369 = .ok (.invokevirtual 35, 3) := by decide +kernel
theorem dL_law_372 : decode cL_law 372 = .ok (.if_icmp .eq 959, 3) := by decide +kernel
theorem dL_law_375 : decode cL_law 375 = .ok (.iconst 0, 1) := by decide +kernel
theorem dL_law_376 : decode cL_law 376 = .ok (.ireturn, 1) := by decide +kernel
theorem dL_law_377 : decode cL_law 377 = .ok (.aload_n 1, 1) := by decide +kernel
theorem dL_law_378 : decode cL_law 378 = .ok (.aload_n 0, 1) := by decide +kernel
theorem dL_law_379 : decode cL_law 379 = .ok (.iload_n 3, 1) := by decide +kernel
theorem dL_law_380 : decode cL_law 380 = .ok (.iconst 1, 1) := by decide +kernel
theorem dL_law_381 : decode cL_law 381 = .ok (.iadd, 1) := by decide +kernel
theorem dL_law_382 : decode cL_law 382 = .ok (.iaload, 1) := by decide +kernel
theorem dL_law_383 : decode cL_law 383 = .ok (.aload_n 0, 1) := by decide +kernel
theorem dL_law_384 : decode cL_law 384 = .ok (.iload_n 3, 1) := by decide +kernel
theorem dL_law_385 : decode cL_law 385 = .ok (.iconst 2, 1) := by decide +kernel
theorem dL_law_386 : decode cL_law 386 = .ok (.iadd, 1) := by decide +kernel
theorem dL_law_387 : decode cL_law 387 = .ok (.iaload, 1) := by decide +kernel
theorem dL_law_388 : decode cL_law 388 = .ok (.invokevirtual 36, 3) := by decide +kernel
theorem dL_law_391 : decode cL_law 391 = .ok (.aload_n 2, 1) := by decide +kernel
theorem dL_law_392 : decode cL_law 392 = .ok (.aload_n 0, 1) := by decide +kernel
theorem dL_law_393 : decode cL_law 393 = .ok (.iload_n 3, 1) := by decide +kernel
theorem dL_law_394 : decode cL_law 394 = .ok (.iconst 1, 1) := by decide +kernel
theorem dL_law_395 : decode cL_law 395 = .ok (.iadd, 1) := by decide +kernel
theorem dL_law_396 : decode cL_law 396 = .ok (.iaload, 1) := by decide +kernel
theorem dL_law_397 : decode cL_law 397 = .ok (.aload_n 0, 1) := by decide +kernel
theorem dL_law_398 : decode cL_law 398 = .ok (.iload_n 3, 1) := by decide +kernel
theorem dL_law_399 : decode cL_law 399 = .ok (.iconst 2, 1) := by decide +kernel
theorem dL_law_400 : decode cL_law 400 = .ok (.iadd, 1) := by decide +kernel
theorem dL_law_401 : decode cL_law 401 = .ok (.iaload, 1) := by decide +kernel
theorem dL_law_402 : decode cL_law 402 = .ok (.invokevirtual 39, 3) := by decide +kernel
theorem dL_law_405 : decode cL_law 405 = .ok (.if_icmp .eq 926, 3) := by decide +kernel
theorem dL_law_408 : decode cL_law 408 = .ok (.iconst 0, 1) := by decide +kernel
theorem dL_law_409 : decode cL_law 409 = .ok (.ireturn, 1) := by decide +kernel
theorem dL_law_410 : decode cL_law 410 = .ok (.aload_n 1, 1) := by decide +kernel
theorem dL_law_411 : decode cL_law 411 = .ok (.aload_n 0, 1) := by decide +kernel
theorem dL_law_412 : decode cL_law 412 = .ok (.iload_n 3, 1) := by decide +kernel
theorem dL_law_413 : decode cL_law 413 = .ok (.iconst 1, 1) := by decide +kernel
theorem dL_law_414 : decode cL_law 414 = .ok (.iadd, 1) := by decide +kernel
theorem dL_law_415 : decode cL_law 415 = .ok (.iaload, 1) := by decide +kernel
theorem dL_law_416 : decode cL_law 416 = .ok (.invokevirtual 40, 3) := by decide +kernel
theorem dL_law_419 : decode cL_law 419 = .ok (.aload_n 2, 1) := by decide +kernel
theorem dL_law_420 : decode cL_law 420 = .ok (.aload_n 0, 1) := by decide +kernel
theorem dL_law_421 : decode cL_law 421 = .ok (.iload_n 3, 1) := by decide +kernel
theorem dL_law_422 : decode cL_law 422 = .ok (.iconst 1, 1) := by decide +kernel
theorem dL_law_423 : decode cL_law 423 = .ok (.iadd, 1) := by decide +kernel
theorem dL_law_424 : decode cL_law 424 = .ok (.iaload, 1) := by decide +kernel
theorem dL_law_425 : decode cL_law 425 = .ok (.invokevirtual 43, 3) := by decide +kernel
theorem dL_law_428 : decode cL_law 428 = .ok (.if_icmp .eq 903, 3) := by decide +kernel
theorem dL_law_431 : decode cL_law 431 = .ok (.iconst 0, 1) := by decide +kernel
theorem dL_law_432 : decode cL_law 432 = .ok (.ireturn, 1) := by decide +kernel
theorem dL_law_433 : decode cL_law 433 = .ok (.aload_n 1, 1) := by decide +kernel
theorem dL_law_434 : decode cL_law 434 = .ok (.invokevirtual 44, 3) := by decide +kernel
theorem dL_law_437 : decode cL_law 437 = .ok (.aload_n 2, 1) := by decide +kernel
theorem dL_law_438 : decode cL_law 438 = .ok (.invokevirtual 48, 3) := by decide +kernel
theorem dL_law_441 : decode cL_law 441 = .ok (.if_icmp .eq 890, 3) := by decide +kernel
theorem dL_law_444 : decode cL_law 444 = .ok (.iconst 0, 1) := by decide +kernel
theorem dL_law_445 : decode cL_law 445 = .ok (.ireturn, 1) := by decide +kernel
theorem dL_law_446 : decode cL_law 446 = .ok (.aload_n 1, 1) := by decide +kernel
theorem dL_law_447 : decode cL_law 447 = .ok (.aload_n 0, 1) := by decide +kernel
theorem dL_law_448 : decode cL_law 448 = .ok (.iload_n 3, 1) := by decide +kernel
theorem dL_law_449 : decode cL_law 449 = .ok (.iconst 1, 1) := by decide +kernel
theorem dL_law_450 : decode cL_law 450 = .ok (.iadd, 1) := by decide +kernel
theorem dL_law_451 : decode cL_law 451 = .ok (.iaload, 1) := by decide +kernel
theorem dL_law_452 : decode cL_law 452 = .ok (.aload_n 0, 1) := by decide +kernel
theorem dL_law_453 : decode cL_law 453 = .ok (.iload_n 3, 1) := by decide +kernel
theorem dL_law_454 : decode cL_law 454 = .ok (.iconst 2, 1) := by decide +kernel
theorem dL_law_455 : decode cL_law 455 = .ok (.iadd, 1) := by decide +kernel
theorem dL_law_456 : decode cL_law 456 = .ok (.iaload, 1) := by decide +kernel
theorem dL_law_457 : decode cL_law 457 = .ok (.invokevirtual 49, 3) := by decide +kernel
theorem dL_law_460 : decode cL_law 460 = .ok (.aload_n 2, 1) := by decide +kernel
theorem dL_law_461 : decode cL_law 461 = .ok (.aload_n 0, 1) := by decide +kernel
theorem dL_law_462 : decode cL_law 462 = .ok (.iload_n 3, 1) := by decide +kernel
theorem dL_law_463 : decode cL_law 463 = .ok (.iconst 1, 1) := by decide +kernel
theorem dL_law_464 : decode cL_law 464 = .ok (.iadd, 1) := by decide +kernel
theorem dL_law_465 : decode cL_law 465 = .ok (.iaload, 1) := by decide +kernel
theorem dL_law_466 : decode cL_law 466 = .ok (.aload_n 0, 1) := by decide +kernel
theorem dL_law_467 : decode cL_law 467 = .ok (.iload_n 3, 1) := by decide +kernel
theorem dL_law_468 : decode cL_law 468 = .ok (.iconst 2, 1) := by decide +kernel
theorem dL_law_469 : decode cL_law 469 = .ok (.iadd, 1) := by decide +kernel
theorem dL_law_470 : decode cL_law 470 = .ok (.iaload, 1) := by decide +kernel
theorem dL_law_471 : decode cL_law 471 = .ok (.invokevirtual 52, 3) := by decide +kernel
theorem dL_law_474 : decode cL_law 474 = .ok (.if_icmp .eq 857, 3) := by decide +kernel
theorem dL_law_477 : decode cL_law 477 = .ok (.iconst 0, 1) := by decide +kernel
theorem dL_law_478 : decode cL_law 478 = .ok (.ireturn, 1) := by decide +kernel
theorem dL_law_479 : decode cL_law 479 = .ok (.aload_n 1, 1) := by decide +kernel
theorem dL_law_480 : decode cL_law 480 = .ok (.aload_n 0, 1) := by decide +kernel
theorem dL_law_481 : decode cL_law 481 = .ok (.iload_n 3, 1) := by decide +kernel
theorem dL_law_482 : decode cL_law 482 = .ok (.iconst 1, 1) := by decide +kernel
theorem dL_law_483 : decode cL_law 483 = .ok (.iadd, 1) := by decide +kernel
theorem dL_law_484 : decode cL_law 484 = .ok (.iaload, 1) := by decide +kernel
theorem dL_law_485 : decode cL_law 485 = .ok (.aload_n 0, 1) := by decide +kernel
theorem dL_law_486 : decode cL_law 486 = .ok (.iload_n 3, 1) := by decide +kernel
theorem dL_law_487 : decode cL_law 487 = .ok (.iconst 2, 1) := by decide +kernel
theorem dL_law_488 : decode cL_law 488 = .ok (.iadd, 1) := by decide +kernel
theorem dL_law_489 : decode cL_law 489 = .ok (.iaload, 1) := by decide +kernel
theorem dL_law_490 : decode cL_law 490 = .ok (.aload_n 0, 1) := by decide +kernel
theorem dL_law_491 : decode cL_law 491 = .ok (.iload_n 3, 1) := by decide +kernel
theorem dL_law_492 : decode cL_law 492 = .ok (.iconst 3, 1) := by decide +kernel
theorem dL_law_493 : decode cL_law 493 = .ok (.iadd, 1) := by decide +kernel
theorem dL_law_494 : decode cL_law 494 = .ok (.iaload, 1) := by decide +kernel
theorem dL_law_495 : decode cL_law 495 = .ok (.invokevirtual 53, 3) := by decide +kernel
theorem dL_law_498 : decode cL_law 498 = .ok (.aload_n 2, 1) := by decide +kernel
theorem dL_law_499 : decode cL_law 499 = .ok (.aload_n 0, 1) := by decide +kernel
theorem dL_law_500 : decode cL_law 500 = .ok (.iload_n 3, 1) := by decide +kernel
theorem dL_law_501 : decode cL_law 501 = .ok (.iconst 1, 1) := by decide +kernel
theorem dL_law_502 : decode cL_law 502 = .ok (.iadd, 1) := by decide +kernel
theorem dL_law_503 : decode cL_law 503 = .ok (.iaload, 1) := by decide +kernel
theorem dL_law_504 : decode cL_law 504 = .ok (.aload_n 0, 1) := by decide +kernel
theorem dL_law_505 : decode cL_law 505 = .ok (.iload_n 3, 1) := by decide +kernel
theorem dL_law_506 : decode cL_law 506 = .ok (.iconst 2, 1) := by decide +kernel
theorem dL_law_507 : decode cL_law 507 = .ok (.iadd, 1) := by decide +kernel
theorem dL_law_508 : decode cL_law 508 = .ok (.iaload, 1) := by decide +kernel
theorem dL_law_509 : decode cL_law 509 = .ok (.aload_n 0, 1) := by decide +kernel
theorem dL_law_510 : decode cL_law 510 = .ok (.iload_n 3, 1) := by decide +kernel
theorem dL_law_511 : decode cL_law 511 = .ok (.iconst 3, 1) := by decide +kernel
theorem dL_law_512 : decode cL_law 512 = .ok (.iadd, 1) := by decide +kernel
theorem dL_law_513 : decode cL_law 513 = .ok (.iaload, 1) := by decide +kernel
theorem dL_law_514 : decode cL_law 514 = .ok (.invokevirtual 56, 3) := by decide +kernel
theorem dL_law_517 : decode cL_law 517 = .ok (.if_icmp .eq 814, 3) := by decide +kernel
theorem dL_law_520 : decode cL_law 520 = .ok (.iconst 0, 1) := by decide +kernel
theorem dL_law_521 : decode cL_law 521 = .ok (.ireturn, 1) := by decide +kernel
theorem dL_law_522 : decode cL_law 522 = .ok (.aload_n 1, 1) := by decide +kernel
theorem dL_law_523 : decode cL_law 523 = .ok (.aload_n 0, 1) := by decide +kernel
theorem dL_law_524 : decode cL_law 524 = .ok (.iload_n 3, 1) := by decide +kernel
theorem dL_law_525 : decode cL_law 525 = .ok (.iconst 1, 1) := by decide +kernel
theorem dL_law_526 : decode cL_law 526 = .ok (.iadd, 1) := by decide +kernel
theorem dL_law_527 : decode cL_law 527 = .ok (.iaload, 1) := by decide +kernel
theorem dL_law_528 : decode cL_law 528 = .ok (.aload_n 0, 1) := by decide +kernel
theorem dL_law_529 : decode cL_law 529 = .ok (.iload_n 3, 1) := by decide +kernel
theorem dL_law_530 : decode cL_law 530 = .ok (.iconst 2, 1) := by decide +kernel
theorem dL_law_531 : decode cL_law 531 = .ok (.iadd, 1) := by decide +kernel
theorem dL_law_532 : decode cL_law 532 = .ok (.iaload, 1) := by decide +kernel
theorem dL_law_533 : decode cL_law 533 = .ok (.invokevirtual 57, 3) := by decide +kernel
theorem dL_law_536 : decode cL_law 536 = .ok (.aload_n 2, 1) := by decide +kernel
theorem dL_law_537 : decode cL_law 537 = .ok (.aload_n 0, 1) := by decide +kernel
theorem dL_law_538 : decode cL_law 538 = .ok (.iload_n 3, 1) := by decide +kernel
theorem dL_law_539 : decode cL_law 539 = .ok (.iconst 1, 1) := by decide +kernel
theorem dL_law_540 : decode cL_law 540 = .ok (.iadd, 1) := by decide +kernel
theorem dL_law_541 : decode cL_law 541 = .ok (.iaload, 1) := by decide +kernel
theorem dL_law_542 : decode cL_law 542 = .ok (.aload_n 0, 1) := by decide +kernel
theorem dL_law_543 : decode cL_law 543 = .ok (.iload_n 3, 1) := by decide +kernel
theorem dL_law_544 : decode cL_law 544 = .ok (.iconst 2, 1) := by decide +kernel
theorem dL_law_545 : decode cL_law 545 = .ok (.iadd, 1) := by decide +kernel
theorem dL_law_546 : decode cL_law 546 = .ok (.iaload, 1) := by decide +kernel
theorem dL_law_547 : decode cL_law 547 = .ok (.invokevirtual 60, 3) := by decide +kernel
theorem dL_law_550 : decode cL_law 550 = .ok (.if_icmp .eq 781, 3) := by decide +kernel
theorem dL_law_553 : decode cL_law 553 = .ok (.iconst 0, 1) := by decide +kernel
theorem dL_law_554 : decode cL_law 554 = .ok (.ireturn, 1) := by decide +kernel
theorem dL_law_555 : decode cL_law 555 = .ok (.aload_n 1, 1) := by decide +kernel
theorem dL_law_556 : decode cL_law 556 = .ok (.aload_n 0, 1) := by decide +kernel
theorem dL_law_557 : decode cL_law 557 = .ok (.iload_n 3, 1) := by decide +kernel
theorem dL_law_558 : decode cL_law 558 = .ok (.iconst 1, 1) := by decide +kernel
theorem dL_law_559 : decode cL_law 559 = .ok (.iadd, 1) := by decide +kernel
theorem dL_law_560 : decode cL_law 560 = .ok (.iaload, 1) := by decide +kernel
theorem dL_law_561 : decode cL_law 561 = .ok (.aload_n 0, 1) := by decide +kernel
theorem dL_law_562 : decode cL_law 562 = .ok (.iload_n 3, 1) := by decide +kernel
theorem dL_law_563 : decode cL_law 563 = .ok (.iconst 2, 1) := by decide +kernel
theorem dL_law_564 : decode cL_law 564 = .ok (.iadd, 1) := by decide +kernel
theorem dL_law_565 : decode cL_law 565 = .ok (.iaload, 1) := by decide +kernel
theorem dL_law_566 : decode cL_law 566 = .ok (.invokevirtual 61, 3) := by decide +kernel
theorem dL_law_569 : decode cL_law 569 = .ok (.aload_n 2, 1) := by decide +kernel
theorem dL_law_570 : decode cL_law 570 = .ok (.aload_n 0, 1) := by decide +kernel
theorem dL_law_571 : decode cL_law 571 = .ok (.iload_n 3, 1) := by decide +kernel
theorem dL_law_572 : decode cL_law 572 = .ok (.iconst 1, 1) := by decide +kernel
theorem dL_law_573 : decode cL_law 573 = .ok (.iadd, 1) := by decide +kernel
theorem dL_law_574 : decode cL_law 574 = .ok (.iaload, 1) := by decide +kernel
theorem dL_law_575 : decode cL_law 575 = .ok (.aload_n 0, 1) := by decide +kernel
theorem dL_law_576 : decode cL_law 576 = .ok (.iload_n 3, 1) := by decide +kernel
theorem dL_law_577 : decode cL_law 577 = .ok (.iconst 2, 1) := by decide +kernel
theorem dL_law_578 : decode cL_law 578 = .ok (.iadd, 1) := by decide +kernel
theorem dL_law_579 : decode cL_law 579 = .ok (.iaload, 1) := by decide +kernel
theorem dL_law_580 : decode cL_law 580 = .ok (.invokevirtual 64, 3) := by decide +kernel
theorem dL_law_583 : decode cL_law 583 = .ok (.if_icmp .eq 748, 3) := by decide +kernel
theorem dL_law_586 : decode cL_law 586 = .ok (.iconst 0, 1) := by decide +kernel
theorem dL_law_587 : decode cL_law 587 = .ok (.ireturn, 1) := by decide +kernel
theorem dL_law_588 : decode cL_law 588 = .ok (.aload_n 1, 1) := by decide +kernel
theorem dL_law_589 : decode cL_law 589 = .ok (.aload_n 0, 1) := by decide +kernel
theorem dL_law_590 : decode cL_law 590 = .ok (.iload_n 3, 1) := by decide +kernel
theorem dL_law_591 : decode cL_law 591 = .ok (.iconst 1, 1) := by decide +kernel
theorem dL_law_592 : decode cL_law 592 = .ok (.iadd, 1) := by decide +kernel
theorem dL_law_593 : decode cL_law 593 = .ok (.iaload, 1) := by decide +kernel
theorem dL_law_594 : decode cL_law 594 = .ok (.aload_n 0, 1) := by decide +kernel
theorem dL_law_595 : decode cL_law 595 = .ok (.iload_n 3, 1) := by decide +kernel
theorem dL_law_596 : decode cL_law 596 = .ok (.iconst 2, 1) := by decide +kernel
theorem dL_law_597 : decode cL_law 597 = .ok (.iadd, 1) := by decide +kernel
theorem dL_law_598 : decode cL_law 598 = .ok (.iaload, 1) := by decide +kernel
theorem dL_law_599 : decode cL_law 599 = .ok (.invokevirtual 65, 3) := by decide +kernel
theorem dL_law_602 : decode cL_law 602 = .ok (.aload_n 2, 1) := by decide +kernel
theorem dL_law_603 : decode cL_law 603 = .ok (.aload_n 0, 1) := by decide +kernel
theorem dL_law_604 : decode cL_law 604 = .ok (.iload_n 3, 1) := by decide +kernel
theorem dL_law_605 : decode cL_law 605 = .ok (.iconst 1, 1) := by decide +kernel
theorem dL_law_606 : decode cL_law 606 = .ok (.iadd, 1) := by decide +kernel
theorem dL_law_607 : decode cL_law 607 = .ok (.iaload, 1) := by decide +kernel
theorem dL_law_608 : decode cL_law 608 = .ok (.aload_n 0, 1) := by decide +kernel
theorem dL_law_609 : decode cL_law 609 = .ok (.iload_n 3, 1) := by decide +kernel
theorem dL_law_610 : decode cL_law 610 = .ok (.iconst 2, 1) := by decide +kernel
theorem dL_law_611 : decode cL_law 611 = .ok (.iadd, 1) := by decide +kernel
theorem dL_law_612 : decode cL_law 612 = .ok (.iaload, 1) := by decide +kernel
theorem dL_law_613 : decode cL_law 613 = .ok (.invokevirtual 68, 3) := by decide +kernel
theorem dL_law_616 : decode cL_law 616 = .ok (.if_icmp .eq 715, 3) := by decide +kernel
theorem dL_law_619 : decode cL_law 619 = .ok (.iconst 0, 1) := by decide +kernel
theorem dL_law_620 : decode cL_law 620 = .ok (.ireturn, 1) := by decide +kernel
theorem dL_law_621 : decode cL_law 621 = .ok (.aload_n 1, 1) := by decide +kernel
theorem dL_law_622 : decode cL_law 622 = .ok (.invokevirtual 69, 3) := by decide +kernel
theorem dL_law_625 : decode cL_law 625 = .ok (.aload_n 2, 1) := by decide +kernel
theorem dL_law_626 : decode cL_law 626 = .ok (.invokevirtual 72, 3) := by decide +kernel
theorem dL_law_629 : decode cL_law 629 = .ok (.if_icmp .eq 702, 3) := by decide +kernel
theorem dL_law_632 : decode cL_law 632 = .ok (.iconst 0, 1) := by decide +kernel
theorem dL_law_633 : decode cL_law 633 = .ok (.ireturn, 1) := by decide +kernel
theorem dL_law_634 : decode cL_law 634 = .ok (.aload_n 1, 1) := by decide +kernel
theorem dL_law_635 : decode cL_law 635 = .ok (.aload_n 0, 1) := by decide +kernel
theorem dL_law_636 : decode cL_law 636 = .ok (.iload_n 3, 1) := by decide +kernel
theorem dL_law_637 : decode cL_law 637 = .ok (.iconst 1, 1) := by decide +kernel
theorem dL_law_638 : decode cL_law 638 = .ok (.iadd, 1) := by decide +kernel
theorem dL_law_639 : decode cL_law 639 = .ok (.iaload, 1) := by decide +kernel
theorem dL_law_640 : decode cL_law 640 = .ok (.aload_n 0, 1) := by decide +kernel
theorem dL_law_641 : decode cL_law 641 = .ok (.iload_n 3, 1) := by decide +kernel
theorem dL_law_642 : decode cL_law 642 = .ok (.iconst 2, 1) := by decide +kernel
theorem dL_law_643 : decode cL_law 643 = .ok (.iadd, 1) := by decide +kernel
theorem dL_law_644 : decode cL_law 644 = .ok (.iaload, 1) := by decide +kernel
theorem dL_law_645 : decode cL_law 645 = .ok (.aload_n 0, 1) := by decide +kernel
theorem dL_law_646 : decode cL_law 646 = .ok (.iload_n 3, 1) := by decide +kernel
theorem dL_law_647 : decode cL_law 647 = .ok (.iconst 3, 1) := by decide +kernel
theorem dL_law_648 : decode cL_law 648 = .ok (.iadd, 1) := by decide +kernel
theorem dL_law_649 : decode cL_law 649 = .ok (.iaload, 1) := by decide +kernel
theorem dL_law_650 : decode cL_law 650 = .ok (.aload_n 0, 1) := by decide +kernel
theorem dL_law_651 : decode cL_law 651 = .ok (.iload_n 3, 1) := by decide +kernel
theorem dL_law_652 : decode cL_law 652 = .ok (.iconst 4, 1) := by decide +kernel
theorem dL_law_653 : decode cL_law 653 = .ok (.iadd, 1) := by decide +kernel
theorem dL_law_654 : decode cL_law 654 = .ok (.iaload, 1) := by decide +kernel
theorem dL_law_655 : decode cL_law 655 = .ok (.invokevirtual 73, 3) := by decide +kernel
theorem dL_law_658 : decode cL_law 658 = .ok (.aload_n 2, 1) := by decide +kernel
theorem dL_law_659 : decode cL_law 659 = .ok (.aload_n 0, 1) := by decide +kernel
theorem dL_law_660 : decode cL_law 660 = .ok (.iload_n 3, 1) := by decide +kernel
theorem dL_law_661 : decode cL_law 661 = .ok (.iconst 1, 1) := by decide +kernel
theorem dL_law_662 : decode cL_law 662 = .ok (.iadd, 1) := by decide +kernel
theorem dL_law_663 : decode cL_law 663 = .ok (.iaload, 1) := by decide +kernel
theorem dL_law_664 : decode cL_law 664 = .ok (.aload_n 0, 1) := by decide +kernel
theorem dL_law_665 : decode cL_law 665 = .ok (.iload_n 3, 1) := by decide +kernel
theorem dL_law_666 : decode cL_law 666 = .ok (.iconst 2, 1) := by decide +kernel
theorem dL_law_667 : decode cL_law 667 = .ok (.iadd, 1) := by decide +kernel
theorem dL_law_668 : decode cL_law 668 = .ok (.iaload, 1) := by decide +kernel
theorem dL_law_669 : decode cL_law 669 = .ok (.aload_n 0, 1) := by decide +kernel
theorem dL_law_670 : decode cL_law 670 = .ok (.iload_n 3, 1) := by decide +kernel
theorem dL_law_671 : decode cL_law 671 = .ok (.iconst 3, 1) := by decide +kernel
theorem dL_law_672 : decode cL_law 672 = .ok (.iadd, 1) := by decide +kernel
theorem dL_law_673 : decode cL_law 673 = .ok (.iaload, 1) := by decide +kernel
theorem dL_law_674 : decode cL_law 674 = .ok (.aload_n 0, 1) := by decide +kernel
theorem dL_law_675 : decode cL_law 675 = .ok (.iload_n 3, 1) := by decide +kernel
theorem dL_law_676 : decode cL_law 676 = .ok (.iconst 4, 1) := by decide +kernel
theorem dL_law_677 : decode cL_law 677 = .ok (.iadd, 1) := by decide +kernel
theorem dL_law_678 : decode cL_law 678 = .ok (.iaload, 1) := by decide +kernel
theorem dL_law_679 : decode cL_law 679 = .ok (.invokevirtual 77, 3) := by decide +kernel
theorem dL_law_682 : decode cL_law 682 = .ok (.if_icmp .eq 649, 3) := by decide +kernel
theorem dL_law_685 : decode cL_law 685 = .ok (.iconst 0, 1) := by decide +kernel
theorem dL_law_686 : decode cL_law 686 = .ok (.ireturn, 1) := by decide +kernel
theorem dL_law_687 : decode cL_law 687 = .ok (.aload_n 1, 1) := by decide +kernel
theorem dL_law_688 : decode cL_law 688 = .ok (.aload_n 0, 1) := by decide +kernel
theorem dL_law_689 : decode cL_law 689 = .ok (.iload_n 3, 1) := by decide +kernel
theorem dL_law_690 : decode cL_law 690 = .ok (.iconst 1, 1) := by decide +kernel
theorem dL_law_691 : decode cL_law 691 = .ok (.iadd, 1) := by decide +kernel
theorem dL_law_692 : decode cL_law 692 = .ok (.iaload, 1) := by decide +kernel
theorem dL_law_693 : decode cL_law 693 = .ok (.invokevirtual 78, 3) := by decide +kernel
theorem dL_law_696 : decode cL_law 696 = .ok (.aload_n 2, 1) := by decide +kernel
theorem dL_law_697 : decode cL_law 697 = .ok (.aload_n 0, 1) := by decide +kernel
theorem dL_law_698 : decode cL_law 698 = .ok (.iload_n 3, 1) := by decide +kernel
theorem dL_law_699 : decode cL_law 699 = .ok (.iconst 1, 1) := by decide +kernel
theorem dL_law_700 : decode cL_law 700 = .ok (.iadd, 1) := by decide +kernel
theorem dL_law_701 : decode cL_law 701 = .ok (.iaload, 1) := by decide +kernel
theorem dL_law_702 : decode cL_law 702 = .ok (.invokevirtual 81, 3) := by decide +kernel
theorem dL_law_705 : decode cL_law 705 = .ok (.if_icmp .eq 626, 3) := by decide +kernel
theorem dL_law_708 : decode cL_law 708 = .ok (.iconst 0, 1) := by decide +kernel
theorem dL_law_709 : decode cL_law 709 = .ok (.ireturn, 1) := by decide +kernel
theorem dL_law_710 : decode cL_law 710 = .ok (.aload_n 1, 1) := by decide +kernel
theorem dL_law_711 : decode cL_law 711 = .ok (.aload_n 0, 1) := by decide +kernel
theorem dL_law_712 : decode cL_law 712 = .ok (.iload_n 3, 1) := by decide +kernel
theorem dL_law_713 : decode cL_law 713 = .ok (.iconst 1, 1) := by decide +kernel
theorem dL_law_714 : decode cL_law 714 = .ok (.iadd, 1) := by decide +kernel
theorem dL_law_715 : decode cL_law 715 = .ok (.iaload, 1) := by decide +kernel
theorem dL_law_716 : decode cL_law 716 = .ok (.aload_n 0, 1) := by decide +kernel
theorem dL_law_717 : decode cL_law 717 = .ok (.iload_n 3, 1) := by decide +kernel
theorem dL_law_718 : decode cL_law 718 = .ok (.iconst 2, 1) := by decide +kernel
theorem dL_law_719 : decode cL_law 719 = .ok (.iadd, 1) := by decide +kernel
theorem dL_law_720 : decode cL_law 720 = .ok (.iaload, 1) := by decide +kernel
theorem dL_law_721 : decode cL_law 721 = .ok (.invokevirtual 82, 3) := by decide +kernel
theorem dL_law_724 : decode cL_law 724 = .ok (.aload_n 2, 1) := by decide +kernel
theorem dL_law_725 : decode cL_law 725 = .ok (.aload_n 0, 1) := by decide +kernel
theorem dL_law_726 : decode cL_law 726 = .ok (.iload_n 3, 1) := by decide +kernel
theorem dL_law_727 : decode cL_law 727 = .ok (.iconst 1, 1) := by decide +kernel
theorem dL_law_728 : decode cL_law 728 = .ok (.iadd, 1) := by decide +kernel
theorem dL_law_729 : decode cL_law 729 = .ok (.iaload, 1) := by decide +kernel
theorem dL_law_730 : decode cL_law 730 = .ok (.aload_n 0, 1) := by decide +kernel
theorem dL_law_731 : decode cL_law 731 = .ok (.iload_n 3, 1) := by decide +kernel
theorem dL_law_732 : decode cL_law 732 = .ok (.iconst 2, 1) := by decide +kernel
theorem dL_law_733 : decode cL_law 733 = .ok (.iadd, 1) := by decide +kernel
theorem dL_law_734 : decode cL_law 734 = .ok (.iaload, 1) := by decide +kernel
theorem dL_law_735 : decode cL_law 735 = .ok (.invokevirtual 85, 3) := by decide +kernel
theorem dL_law_738 : decode cL_law 738 = .ok (.if_icmp .eq 593, 3) := by decide +kernel
theorem dL_law_741 : decode cL_law 741 = .ok (.iconst 0, 1) := by decide +kernel
theorem dL_law_742 : decode cL_law 742 = .ok (.ireturn, 1) := by decide +kernel
theorem dL_law_743 : decode cL_law 743 = .ok (.aload_n 1, 1) := by decide +kernel
theorem dL_law_744 : decode cL_law 744 = .ok (.aload_n 0, 1) := by decide +kernel
theorem dL_law_745 : decode cL_law 745 = .ok (.iload_n 3, 1) := by decide +kernel
theorem dL_law_746 : decode cL_law 746 = .ok (.iconst 1, 1) := by decide +kernel
theorem dL_law_747 : decode cL_law 747 = .ok (.iadd, 1) := by decide +kernel
theorem dL_law_748 : decode cL_law 748 = .ok (.iaload, 1) := by decide +kernel
theorem dL_law_749 : decode cL_law 749 = .ok (.invokevirtual 86, 3) := by decide +kernel
theorem dL_law_752 : decode cL_law 752 = .ok (.aload_n 2, 1) := by decide +kernel
theorem dL_law_753 : decode cL_law 753 = .ok (.aload_n 0, 1) := by decide +kernel
theorem dL_law_754 : decode cL_law 754 = .ok (.iload_n 3, 1) := by decide +kernel
theorem dL_law_755 : decode cL_law 755 = .ok (.iconst 1, 1) := by decide +kernel
theorem dL_law_756 : decode cL_law 756 = .ok (.iadd, 1) := by decide +kernel
theorem dL_law_757 : decode cL_law 757 = .ok (.iaload, 1) := by decide +kernel
theorem dL_law_758 : decode cL_law 758 = .ok (.invokevirtual 89, 3) := by decide +kernel
theorem dL_law_761 : decode cL_law 761 = .ok (.if_icmp .eq 570, 3) := by decide +kernel
theorem dL_law_764 : decode cL_law 764 = .ok (.iconst 0, 1) := by decide +kernel
theorem dL_law_765 : decode cL_law 765 = .ok (.ireturn, 1) := by decide +kernel
theorem dL_law_766 : decode cL_law 766 = .ok (.aload_n 1, 1) := by decide +kernel
theorem dL_law_767 : decode cL_law 767 = .ok (.aload_n 0, 1) := by decide +kernel
theorem dL_law_768 : decode cL_law 768 = .ok (.iload_n 3, 1) := by decide +kernel
theorem dL_law_769 : decode cL_law 769 = .ok (.iconst 1, 1) := by decide +kernel
theorem dL_law_770 : decode cL_law 770 = .ok (.iadd, 1) := by decide +kernel
theorem dL_law_771 : decode cL_law 771 = .ok (.iaload, 1) := by decide +kernel
theorem dL_law_772 : decode cL_law 772 = .ok (.aload_n 0, 1) := by decide +kernel
theorem dL_law_773 : decode cL_law 773 = .ok (.iload_n 3, 1) := by decide +kernel
theorem dL_law_774 : decode cL_law 774 = .ok (.iconst 2, 1) := by decide +kernel
theorem dL_law_775 : decode cL_law 775 = .ok (.iadd, 1) := by decide +kernel
theorem dL_law_776 : decode cL_law 776 = .ok (.iaload, 1) := by decide +kernel
theorem dL_law_777 : decode cL_law 777 = .ok (.invokevirtual 90, 3) := by decide +kernel
theorem dL_law_780 : decode cL_law 780 = .ok (.aload_n 2, 1) := by decide +kernel
theorem dL_law_781 : decode cL_law 781 = .ok (.aload_n 0, 1) := by decide +kernel
theorem dL_law_782 : decode cL_law 782 = .ok (.iload_n 3, 1) := by decide +kernel
theorem dL_law_783 : decode cL_law 783 = .ok (.iconst 1, 1) := by decide +kernel
theorem dL_law_784 : decode cL_law 784 = .ok (.iadd, 1) := by decide +kernel
theorem dL_law_785 : decode cL_law 785 = .ok (.iaload, 1) := by decide +kernel
theorem dL_law_786 : decode cL_law 786 = .ok (.aload_n 0, 1) := by decide +kernel
theorem dL_law_787 : decode cL_law 787 = .ok (.iload_n 3, 1) := by decide +kernel
theorem dL_law_788 : decode cL_law 788 = .ok (.iconst 2, 1) := by decide +kernel
theorem dL_law_789 : decode cL_law 789 = .ok (.iadd, 1) := by decide +kernel
theorem dL_law_790 : decode cL_law 790 = .ok (.iaload, 1) := by decide +kernel
theorem dL_law_791 : decode cL_law 791 = .ok (.invokevirtual 93, 3) := by decide +kernel
theorem dL_law_794 : decode cL_law 794 = .ok (.if_icmp .eq 537, 3) := by decide +kernel
theorem dL_law_797 : decode cL_law 797 = .ok (.iconst 0, 1) := by decide +kernel
theorem dL_law_798 : decode cL_law 798 = .ok (.ireturn, 1) := by decide +kernel
theorem dL_law_799 : decode cL_law 799 = .ok (.aload_n 1, 1) := by decide +kernel
theorem dL_law_800 : decode cL_law 800 = .ok (.aload_n 0, 1) := by decide +kernel
theorem dL_law_801 : decode cL_law 801 = .ok (.iload_n 3, 1) := by decide +kernel
theorem dL_law_802 : decode cL_law 802 = .ok (.iconst 1, 1) := by decide +kernel
theorem dL_law_803 : decode cL_law 803 = .ok (.iadd, 1) := by decide +kernel
theorem dL_law_804 : decode cL_law 804 = .ok (.iaload, 1) := by decide +kernel
theorem dL_law_805 : decode cL_law 805 = .ok (.aload_n 0, 1) := by decide +kernel
theorem dL_law_806 : decode cL_law 806 = .ok (.iload_n 3, 1) := by decide +kernel
theorem dL_law_807 : decode cL_law 807 = .ok (.iconst 2, 1) := by decide +kernel
theorem dL_law_808 : decode cL_law 808 = .ok (.iadd, 1) := by decide +kernel
theorem dL_law_809 : decode cL_law 809 = .ok (.iaload, 1) := by decide +kernel
theorem dL_law_810 : decode cL_law 810 = .ok (.invokevirtual 94, 3) := by decide +kernel
theorem dL_law_813 : decode cL_law 813 = .ok (.aload_n 2, 1) := by decide +kernel
theorem dL_law_814 : decode cL_law 814 = .ok (.aload_n 0, 1) := by decide +kernel
theorem dL_law_815 : decode cL_law 815 = .ok (.iload_n 3, 1) := by decide +kernel
theorem dL_law_816 : decode cL_law 816 = .ok (.iconst 1, 1) := by decide +kernel
theorem dL_law_817 : decode cL_law 817 = .ok (.iadd, 1) := by decide +kernel
theorem dL_law_818 : decode cL_law 818 = .ok (.iaload, 1) := by decide +kernel
theorem dL_law_819 : decode cL_law 819 = .ok (.aload_n 0, 1) := by decide +kernel
theorem dL_law_820 : decode cL_law 820 = .ok (.iload_n 3, 1) := by decide +kernel
theorem dL_law_821 : decode cL_law 821 = .ok (.iconst 2, 1) := by decide +kernel
theorem dL_law_822 : decode cL_law 822 = .ok (.iadd, 1) := by decide +kernel
theorem dL_law_823 : decode cL_law 823 = .ok (.iaload, 1) := by decide +kernel
theorem dL_law_824 : decode cL_law 824 = .ok (.invokevirtual 97, 3) := by decide +kernel
theorem dL_law_827 : decode cL_law 827 = .ok (.if_icmp .eq 504, 3) := by decide +kernel
theorem dL_law_830 : decode cL_law 830 = .ok (.iconst 0, 1) := by decide +kernel
theorem dL_law_831 : decode cL_law 831 = .ok (.ireturn, 1) := by decide +kernel
theorem dL_law_832 : decode cL_law 832 = .ok (.aload_n 1, 1) := by decide +kernel
theorem dL_law_833 : decode cL_law 833 = .ok (.aload_n 0, 1) := by decide +kernel
theorem dL_law_834 : decode cL_law 834 = .ok (.iload_n 3, 1) := by decide +kernel
theorem dL_law_835 : decode cL_law 835 = .ok (.iconst 1, 1) := by decide +kernel
theorem dL_law_836 : decode cL_law 836 = .ok (.iadd, 1) := by decide +kernel
theorem dL_law_837 : decode cL_law 837 = .ok (.iaload, 1) := by decide +kernel
theorem dL_law_838 : decode cL_law 838 = .ok (.aload_n 0, 1) := by decide +kernel
theorem dL_law_839 : decode cL_law 839 = .ok (.iload_n 3, 1) := by decide +kernel
theorem dL_law_840 : decode cL_law 840 = .ok (.iconst 2, 1) := by decide +kernel
theorem dL_law_841 : decode cL_law 841 = .ok (.iadd, 1) := by decide +kernel
theorem dL_law_842 : decode cL_law 842 = .ok (.iaload, 1) := by decide +kernel
theorem dL_law_843 : decode cL_law 843 = .ok (.invokevirtual 98, 3) := by decide +kernel
theorem dL_law_846 : decode cL_law 846 = .ok (.aload_n 2, 1) := by decide +kernel
theorem dL_law_847 : decode cL_law 847 = .ok (.aload_n 0, 1) := by decide +kernel
theorem dL_law_848 : decode cL_law 848 = .ok (.iload_n 3, 1) := by decide +kernel
theorem dL_law_849 : decode cL_law 849 = .ok (.iconst 1, 1) := by decide +kernel
theorem dL_law_850 : decode cL_law 850 = .ok (.iadd, 1) := by decide +kernel
theorem dL_law_851 : decode cL_law 851 = .ok (.iaload, 1) := by decide +kernel
theorem dL_law_852 : decode cL_law 852 = .ok (.aload_n 0, 1) := by decide +kernel
theorem dL_law_853 : decode cL_law 853 = .ok (.iload_n 3, 1) := by decide +kernel
theorem dL_law_854 : decode cL_law 854 = .ok (.iconst 2, 1) := by decide +kernel
theorem dL_law_855 : decode cL_law 855 = .ok (.iadd, 1) := by decide +kernel
theorem dL_law_856 : decode cL_law 856 = .ok (.iaload, 1) := by decide +kernel
theorem dL_law_857 : decode cL_law 857 = .ok (.invokevirtual 101, 3) := by decide +kernel
theorem dL_law_860 : decode cL_law 860 = .ok (.if_icmp .eq 471, 3) := by decide +kernel
theorem dL_law_863 : decode cL_law 863 = .ok (.iconst 0, 1) := by decide +kernel
theorem dL_law_864 : decode cL_law 864 = .ok (.ireturn, 1) := by decide +kernel
theorem dL_law_865 : decode cL_law 865 = .ok (.aload_n 1, 1) := by decide +kernel
theorem dL_law_866 : decode cL_law 866 = .ok (.aload_n 0, 1) := by decide +kernel
theorem dL_law_867 : decode cL_law 867 = .ok (.iload_n 3, 1) := by decide +kernel
theorem dL_law_868 : decode cL_law 868 = .ok (.iconst 1, 1) := by decide +kernel
theorem dL_law_869 : decode cL_law 869 = .ok (.iadd, 1) := by decide +kernel
theorem dL_law_870 : decode cL_law 870 = .ok (.iaload, 1) := by decide +kernel
theorem dL_law_871 : decode cL_law 871 = .ok (.invokevirtual 102, 3) := by decide +kernel
theorem dL_law_874 : decode cL_law 874 = .ok (.aload_n 2, 1) := by decide +kernel
theorem dL_law_875 : decode cL_law 875 = .ok (.aload_n 0, 1) := by decide +kernel
theorem dL_law_876 : decode cL_law 876 = .ok (.iload_n 3, 1) := by decide +kernel
theorem dL_law_877 : decode cL_law 877 = .ok (.iconst 1, 1) := by decide +kernel
theorem dL_law_878 : decode cL_law 878 = .ok (.iadd, 1) := by decide +kernel
theorem dL_law_879 : decode cL_law 879 = .ok (.iaload, 1) := by decide +kernel
theorem dL_law_880 : decode cL_law 880 = .ok (.invokevirtual 105, 3) := by decide +kernel
theorem dL_law_883 : decode cL_law 883 = .ok (.if_icmp .eq 448, 3) := by decide +kernel
theorem dL_law_886 : decode cL_law 886 = .ok (.iconst 0, 1) := by decide +kernel
theorem dL_law_887 : decode cL_law 887 = .ok (.ireturn, 1) := by decide +kernel
theorem dL_law_888 : decode cL_law 888 = .ok (.aload_n 1, 1) := by decide +kernel
theorem dL_law_889 : decode cL_law 889 = .ok (.invokevirtual 106, 3) := by decide +kernel
theorem dL_law_892 : decode cL_law 892 = .ok (.aload_n 2, 1) := by decide +kernel
theorem dL_law_893 : decode cL_law 893 = .ok (.invokevirtual 109, 3) := by decide +kernel
theorem dL_law_896 : decode cL_law 896 = .ok (.if_icmp .eq 435, 3) := by decide +kernel
theorem dL_law_899 : decode cL_law 899 = .ok (.iconst 0, 1) := by decide +kernel
theorem dL_law_900 : decode cL_law 900 = .ok (.ireturn, 1) := by decide +kernel
theorem dL_law_901 : decode cL_law 901 = .ok (.aload_n 1, 1) := by decide +kernel
theorem dL_law_902 : decode cL_law 902 = .ok (.invokevirtual 110, 3) := by decide +kernel
theorem dL_law_905 : decode cL_law 905 = .ok (.aload_n 2, 1) := by decide +kernel
theorem dL_law_906 : decode cL_law 906 = .ok (.invokevirtual 113, 3) := by decide +kernel
theorem dL_law_909 : decode cL_law 909 = .ok (.if_icmp .eq 422, 3) := by decide +kernel
theorem dL_law_912 : decode cL_law 912 = .ok (.iconst 0, 1) := by decide +kernel
theorem dL_law_913 : decode cL_law 913 = .ok (.ireturn, 1) := by decide +kernel
theorem dL_law_914 : decode cL_law 914 = .ok (.aload_n 1, 1) := by decide +kernel
theorem dL_law_915 : decode cL_law 915 = .ok (.invokevirtual 114, 3) := by decide +kernel
theorem dL_law_918 : decode cL_law 918 = .ok (.aload_n 2, 1) := by decide +kernel
theorem dL_law_919 : decode cL_law 919 = .ok (.invokevirtual 117, 3) := by decide +kernel
theorem dL_law_922 : decode cL_law 922 = .ok (.if_icmp .eq 409, 3) := by decide +kernel
theorem dL_law_925 : decode cL_law 925 = .ok (.iconst 0, 1) := by decide +kernel
theorem dL_law_926 : decode cL_law 926 = .ok (.ireturn, 1) := by decide +kernel
theorem dL_law_927 : decode cL_law 927 = .ok (.aload_n 1, 1) := by decide +kernel
theorem dL_law_928 : decode cL_law 928 = .ok (.invokevirtual 118, 3) := by decide +kernel
theorem dL_law_931 : decode cL_law 931 = .ok (.aload_n 2, 1) := by decide +kernel
theorem dL_law_932 : decode cL_law 932 = .ok (.invokevirtual 121, 3) := by decide +kernel
theorem dL_law_935 : decode cL_law 935 = .ok (.if_icmp .eq 396, 3) := by decide +kernel
theorem dL_law_938 : decode cL_law 938 = .ok (.iconst 0, 1) := by decide +kernel
theorem dL_law_939 : decode cL_law 939 = .ok (.ireturn, 1) := by decide +kernel
theorem dL_law_940 : decode cL_law 940 = .ok (.aload_n 1, 1) := by decide +kernel
theorem dL_law_941 : decode cL_law 941 = .ok (.aload_n 0, 1) := by decide +kernel
theorem dL_law_942 : decode cL_law 942 = .ok (.iload_n 3, 1) := by decide +kernel
theorem dL_law_943 : decode cL_law 943 = .ok (.iconst 1, 1) := by decide +kernel
theorem dL_law_944 : decode cL_law 944 = .ok (.iadd, 1) := by decide +kernel
theorem dL_law_945 : decode cL_law 945 = .ok (.iaload, 1) := by decide +kernel
theorem dL_law_946 : decode cL_law 946 = .ok (.invokevirtual 122, 3) := by decide +kernel
theorem dL_law_949 : decode cL_law 949 = .ok (.aload_n 2, 1) := by decide +kernel
theorem dL_law_950 : decode cL_law 950 = .ok (.aload_n 0, 1) := by decide +kernel
theorem dL_law_951 : decode cL_law 951 = .ok (.iload_n 3, 1) := by decide +kernel
theorem dL_law_952 : decode cL_law 952 = .ok (.iconst 1, 1) := by decide +kernel
theorem dL_law_953 : decode cL_law 953 = .ok (.iadd, 1) := by decide +kernel
theorem dL_law_954 : decode cL_law 954 = .ok (.iaload, 1) := by decide +kernel
theorem dL_law_955 : decode cL_law 955 = .ok (.invokevirtual 125, 3) := by decide +kernel
theorem dL_law_958 : decode cL_law 958 = .ok (.if_icmp .eq 373, 3) := by decide +kernel
theorem dL_law_961 : decode cL_law 961 = .ok (.iconst 0, 1) := by decide +kernel
theorem dL_law_962 : decode cL_law 962 = .ok (.ireturn, 1) := by decide +kernel
theorem dL_law_963 : decode cL_law 963 = .ok (.aload_n 1, 1) := by decide +kernel
theorem dL_law_964 : decode cL_law 964 = .ok (.aload_n 0, 1) := by decide +kernel
theorem dL_law_965 : decode cL_law 965 = .ok (.iload_n 3, 1) := by decide +kernel
theorem dL_law_966 : decode cL_law 966 = .ok (.iconst 1, 1) := by decide +kernel
theorem dL_law_967 : decode cL_law 967 = .ok (.iadd, 1) := by decide +kernel
theorem dL_law_968 : decode cL_law 968 = .ok (.iaload, 1) := by decide +kernel
theorem dL_law_969 : decode cL_law 969 = .ok (.aload_n 0, 1) := by decide +kernel
theorem dL_law_970 : decode cL_law 970 = .ok (.iload_n 3, 1) := by decide +kernel
theorem dL_law_971 : decode cL_law 971 = .ok (.iconst 2, 1) := by decide +kernel
theorem dL_law_972 : decode cL_law 972 = .ok (.iadd, 1) := by decide +kernel
theorem dL_law_973 : decode cL_law 973 = .ok (.iaload, 1) := by decide +kernel
theorem dL_law_974 : decode cL_law 974 = .ok (.aload_n 0, 1) := by decide +kernel
theorem dL_law_975 : decode cL_law 975 = .ok (.iload_n 3, 1) := by decide +kernel
theorem dL_law_976 : decode cL_law 976 = .ok (.iconst 3, 1) := by decide +kernel
theorem dL_law_977 : decode cL_law 977 = .ok (.iadd, 1) := by decide +kernel
theorem dL_law_978 : decode cL_law 978 = .ok (.iaload, 1) := by decide +kernel
theorem dL_law_979 : decode cL_law 979 = .ok (.invokevirtual 126, 3) := by decide +kernel
theorem dL_law_982 : decode cL_law 982 = .ok (.aload_n 2, 1) := by decide +kernel
theorem dL_law_983 : decode cL_law 983 = .ok (.aload_n 0, 1) := by decide +kernel
theorem dL_law_984 : decode cL_law 984 = .ok (.iload_n 3, 1) := by decide +kernel
theorem dL_law_985 : decode cL_law 985 = .ok (.iconst 1, 1) := by decide +kernel
theorem dL_law_986 : decode cL_law 986 = .ok (.iadd, 1) := by decide +kernel
theorem dL_law_987 : decode cL_law 987 = .ok (.iaload, 1) := by decide +kernel
theorem dL_law_988 : decode cL_law 988 = .ok (.aload_n 0, 1) := by decide +kernel
theorem dL_law_989 : decode cL_law 989 = .ok (.iload_n 3, 1) := by decide +kernel
theorem dL_law_990 : decode cL_law 990 = .ok (.iconst 2, 1) := by decide +kernel
theorem dL_law_991 : decode cL_law 991 = .ok (.iadd, 1) := by decide +kernel
theorem dL_law_992 : decode cL_law 992 = .ok (.iaload, 1) := by decide +kernel
theorem dL_law_993 : decode cL_law 993 = .ok (.aload_n 0, 1) := by decide +kernel
theorem dL_law_994 : decode cL_law 994 = .ok (.iload_n 3, 1) := by decide +kernel
theorem dL_law_995 : decode cL_law 995 = .ok (.iconst 3, 1) := by decide +kernel
theorem dL_law_996 : decode cL_law 996 = .ok (.iadd, 1) := by decide +kernel
theorem dL_law_997 : decode cL_law 997 = .ok (.iaload, 1) := by decide +kernel
theorem dL_law_998 : decode cL_law 998 = .ok (.invokevirtual 129, 3) := by decide +kernel
theorem dL_law_1001 : decode cL_law 1001 = .ok (.if_icmp .eq 330, 3) := by decide +kernel
theorem dL_law_1004 : decode cL_law 1004 = .ok (.iconst 0, 1) := by decide +kernel
theorem dL_law_1005 : decode cL_law 1005 = .ok (.ireturn, 1) := by decide +kernel
theorem dL_law_1006 : decode cL_law 1006 = .ok (.aload_n 1, 1) := by decide +kernel
theorem dL_law_1007 : decode cL_law 1007 = .ok (.aload_n 0, 1) := by decide +kernel
theorem dL_law_1008 : decode cL_law 1008 = .ok (.iload_n 3, 1) := by decide +kernel
theorem dL_law_1009 : decode cL_law 1009 = .ok (.iconst 1, 1) := by decide +kernel
theorem dL_law_1010 : decode cL_law 1010 = .ok (.iadd, 1) := by decide +kernel
theorem dL_law_1011 : decode cL_law 1011 = .ok (.iaload, 1) := by decide +kernel
theorem dL_law_1012 : decode cL_law 1012 = .ok (.invokevirtual 130, 3) := by decide +kernel
theorem dL_law_1015 : decode cL_law 1015 = .ok (.aload_n 2, 1) := by decide +kernel
theorem dL_law_1016 : decode cL_law 1016 = .ok (.aload_n 0, 1) := by decide +kernel
theorem dL_law_1017 : decode cL_law 1017 = .ok (.iload_n 3, 1) := by decide +kernel
theorem dL_law_1018 : decode cL_law 1018 = .ok (.iconst 1, 1) := by decide +kernel
theorem dL_law_1019 : decode cL_law 1019 = .ok (.iadd, 1) := by decide +kernel
theorem dL_law_1020 : decode cL_law 1020 = .ok (.iaload, 1) := by decide +kernel
theorem dL_law_1021 : decode cL_law 1021 = .ok (.invokevirtual 133, 3) := by decide +kernel
theorem dL_law_1024 : decode cL_law 1024 = .ok (.if_icmp .eq 307, 3) := by decide +kernel
theorem dL_law_1027 : decode cL_law 1027 = .ok (.iconst 0, 1) := by decide +kernel
theorem dL_law_1028 : decode cL_law 1028 = .ok (.ireturn, 1) := by decide +kernel
theorem dL_law_1029 : decode cL_law 1029 = .ok (.aload_n 1, 1) := by decide +kernel
theorem dL_law_1030 : decode cL_law 1030 = .ok (.aload_n 0, 1) := by decide +kernel
theorem dL_law_1031 : decode cL_law 1031 = .ok (.iload_n 3, 1) := by decide +kernel
theorem dL_law_1032 : decode cL_law 1032 = .ok (.iconst 1, 1) := by decide +kernel
theorem dL_law_1033 : decode cL_law 1033 = .ok (.iadd, 1) := by decide +kernel
theorem dL_law_1034 : decode cL_law 1034 = .ok (.iaload, 1) := by decide +kernel
theorem dL_law_1035 : decode cL_law 1035 = .ok (.aload_n 0, 1) := by decide +kernel
theorem dL_law_1036 : decode cL_law 1036 = .ok (.iload_n 3, 1) := by decide +kernel
theorem dL_law_1037 : decode cL_law 1037 = .ok (.iconst 2, 1) := by decide +kernel
theorem dL_law_1038 : decode cL_law 1038 = .ok (.iadd, 1) := by decide +kernel
theorem dL_law_1039 : decode cL_law 1039 = .ok (.iaload, 1) := by decide +kernel
theorem dL_law_1040 : decode cL_law 1040 = .ok (.invokevirtual 134, 3) := by decide +kernel
theorem dL_law_1043 : decode cL_law 1043 = .ok (.aload_n 2, 1) := by decide +kernel
theorem dL_law_1044 : decode cL_law 1044 = .ok (.aload_n 0, 1) := by decide +kernel
theorem dL_law_1045 : decode cL_law 1045 = .ok (.iload_n 3, 1) := by decide +kernel
theorem dL_law_1046 : decode cL_law 1046 = .ok (.iconst 1, 1) := by decide +kernel
theorem dL_law_1047 : decode cL_law 1047 = .ok (.iadd, 1) := by decide +kernel
theorem dL_law_1048 : decode cL_law 1048 = .ok (.iaload, 1) := by decide +kernel
theorem dL_law_1049 : decode cL_law 1049 = .ok (.aload_n 0, 1) := by decide +kernel
theorem dL_law_1050 : decode cL_law 1050 = .ok (.iload_n 3, 1) := by decide +kernel
theorem dL_law_1051 : decode cL_law 1051 = .ok (.iconst 2, 1) := by decide +kernel
theorem dL_law_1052 : decode cL_law 1052 = .ok (.iadd, 1) := by decide +kernel
theorem dL_law_1053 : decode cL_law 1053 = .ok (.iaload, 1) := by decide +kernel
theorem dL_law_1054 : decode cL_law 1054 = .ok (.invokevirtual 137, 3) := by decide +kernel
theorem dL_law_1057 : decode cL_law 1057 = .ok (.if_icmp .eq 274, 3) := by decide +kernel
theorem dL_law_1060 : decode cL_law 1060 = .ok (.iconst 0, 1) := by decide +kernel
theorem dL_law_1061 : decode cL_law 1061 = .ok (.ireturn, 1) := by decide +kernel
theorem dL_law_1062 : decode cL_law 1062 = .ok (.aload_n 1, 1) := by decide +kernel
theorem dL_law_1063 : decode cL_law 1063 = .ok (.aload_n 0, 1) := by decide +kernel
theorem dL_law_1064 : decode cL_law 1064 = .ok (.iload_n 3, 1) := by decide +kernel
theorem dL_law_1065 : decode cL_law 1065 = .ok (.iconst 1, 1) := by decide +kernel
theorem dL_law_1066 : decode cL_law 1066 = .ok (.iadd, 1) := by decide +kernel
theorem dL_law_1067 : decode cL_law 1067 = .ok (.iaload, 1) := by decide +kernel
theorem dL_law_1068 : decode cL_law 1068 = .ok (.aload_n 0, 1) := by decide +kernel
theorem dL_law_1069 : decode cL_law 1069 = .ok (.iload_n 3, 1) := by decide +kernel
theorem dL_law_1070 : decode cL_law 1070 = .ok (.iconst 2, 1) := by decide +kernel
theorem dL_law_1071 : decode cL_law 1071 = .ok (.iadd, 1) := by decide +kernel
theorem dL_law_1072 : decode cL_law 1072 = .ok (.iaload, 1) := by decide +kernel
theorem dL_law_1073 : decode cL_law 1073 = .ok (.aload_n 0, 1) := by decide +kernel
theorem dL_law_1074 : decode cL_law 1074 = .ok (.iload_n 3, 1) := by decide +kernel
theorem dL_law_1075 : decode cL_law 1075 = .ok (.iconst 3, 1) := by decide +kernel
theorem dL_law_1076 : decode cL_law 1076 = .ok (.iadd, 1) := by decide +kernel
theorem dL_law_1077 : decode cL_law 1077 = .ok (.iaload, 1) := by decide +kernel
theorem dL_law_1078 : decode cL_law 1078 = .ok (.invokevirtual 138, 3) := by decide +kernel
theorem dL_law_1081 : decode cL_law 1081 = .ok (.aload_n 2, 1) := by decide +kernel
theorem dL_law_1082 : decode cL_law 1082 = .ok (.aload_n 0, 1) := by decide +kernel
theorem dL_law_1083 : decode cL_law 1083 = .ok (.iload_n 3, 1) := by decide +kernel
theorem dL_law_1084 : decode cL_law 1084 = .ok (.iconst 1, 1) := by decide +kernel
theorem dL_law_1085 : decode cL_law 1085 = .ok (.iadd, 1) := by decide +kernel
theorem dL_law_1086 : decode cL_law 1086 = .ok (.iaload, 1) := by decide +kernel
theorem dL_law_1087 : decode cL_law 1087 = .ok (.aload_n 0, 1) := by decide +kernel
theorem dL_law_1088 : decode cL_law 1088 = .ok (.iload_n 3, 1) := by decide +kernel
theorem dL_law_1089 : decode cL_law 1089 = .ok (.iconst 2, 1) := by decide +kernel
theorem dL_law_1090 : decode cL_law 1090 = .ok (.iadd, 1) := by decide +kernel
theorem dL_law_1091 : decode cL_law 1091 = .ok (.iaload, 1) := by decide +kernel
theorem dL_law_1092 : decode cL_law 1092 = .ok (.aload_n 0, 1) := by decide +kernel
theorem dL_law_1093 : decode cL_law 1093 = .ok (.iload_n 3, 1) := by decide +kernel
theorem dL_law_1094 : decode cL_law 1094 = .ok (.iconst 3, 1) := by decide +kernel
theorem dL_law_1095 : decode cL_law 1095 = .ok (.iadd, 1) := by decide +kernel
theorem dL_law_1096 : decode cL_law 1096 = .ok (.iaload, 1) := by decide +kernel
theorem dL_law_1097 : decode cL_law 1097 = .ok (.invokevirtual 141, 3) := by decide +kernel
theorem dL_law_1100 : decode cL_law 1100 = .ok (.if_icmp .eq 231, 3) := by decide +kernel
theorem dL_law_1103 : decode cL_law 1103 = .ok (.iconst 0, 1) := by decide +kernel
theorem dL_law_1104 : decode cL_law 1104 = .ok (.ireturn, 1) := by decide +kernel
theorem dL_law_1105 : decode cL_law 1105 = .ok (.aload_n 1, 1) := by decide +kernel
theorem dL_law_1106 : decode cL_law 1106 = .ok (.aload_n 0, 1) := by decide +kernel
theorem dL_law_1107 : decode cL_law 1107 = .ok (.iload_n 3, 1) := by decide +kernel
theorem dL_law_1108 : decode cL_law 1108 = .ok (.iconst 1, 1) := by decide +kernel
theorem dL_law_1109 : decode cL_law 1109 = .ok (.iadd, 1) := by decide +kernel
theorem dL_law_1110 : decode cL_law 1110 = .ok (.iaload, 1) := by decide +kernel
theorem dL_law_1111 : decode cL_law 1111 = .ok (.aload_n 0, 1) := by decide +kernel
theorem dL_law_1112 : decode cL_law 1112 = .ok (.iload_n 3, 1) := by decide +kernel
theorem dL_law_1113 : decode cL_law 1113 = .ok (.iconst 2, 1) := by decide +kernel
theorem dL_law_1114 : decode cL_law 1114 = .ok (.iadd, 1) := by decide +kernel
theorem dL_law_1115 : decode cL_law 1115 = .ok (.iaload, 1) := by decide +kernel
theorem dL_law_1116 : decode cL_law 1116 = .ok (.aload_n 0, 1) := by decide +kernel
theorem dL_law_1117 : decode cL_law 1117 = .ok (.iload_n 3, 1) := by decide +kernel
theorem dL_law_1118 : decode cL_law 1118 = .ok (.iconst 3, 1) := by decide +kernel
theorem dL_law_1119 : decode cL_law 1119 = .ok (.iadd, 1) := by decide +kernel
theorem dL_law_1120 : decode cL_law 1120 = .ok (.iaload, 1) := by decide +kernel
theorem dL_law_1121 : decode cL_law 1121 = .ok (.i2l, 1) := by decide +kernel
theorem dL_law_1122 : decode cL_law 1122 = .ok (.bipush 32, 2) := by decide +kernel
theorem dL_law_1124 : decode cL_law 1124 = .ok (.lshl, 1) := by decide +kernel
theorem dL_law_1125 : decode cL_law 1125 = .ok (.aload_n 0, 1) := by decide +kernel
theorem dL_law_1126 : decode cL_law 1126 = .ok (.iload_n 3, 1) := by decide +kernel
theorem dL_law_1127 : decode cL_law 1127 = .ok (.iconst 4, 1) := by decide +kernel
theorem dL_law_1128 : decode cL_law 1128 = .ok (.iadd, 1) := by decide +kernel
theorem dL_law_1129 : decode cL_law 1129 = .ok (.iaload, 1) := by decide +kernel
theorem dL_law_1130 : decode cL_law 1130 = .ok (.i2l, 1) := by decide +kernel
theorem dL_law_1131 : decode cL_law 1131 = .ok (.ldc2_w 142, 3) := by decide +kernel
theorem dL_law_1134 : decode cL_law 1134 = .ok (.land, 1) := by decide +kernel
theorem dL_law_1135 : decode cL_law 1135 = .ok (.lor, 1) := by decide +kernel
theorem dL_law_1136 : decode cL_law 1136 = .ok (.invokevirtual 144, 3) := by decide +kernel
theorem dL_law_1139 : decode cL_law 1139 = .ok (.aload_n 2, 1) := by decide +kernel
theorem dL_law_1140 : decode cL_law 1140 = .ok (.aload_n 0, 1) := by decide +kernel
theorem dL_law_1141 : decode cL_law 1141 = .ok (.iload_n 3, 1) := by decide +kernel
theorem dL_law_1142 : decode cL_law 1142 = .ok (.iconst 1, 1) := by decide +kernel
theorem dL_law_1143 : decode cL_law 1143 = .ok (.iadd, 1) := by decide +kernel
theorem dL_law_1144 : decode cL_law 1144 = .ok (.iaload, 1) := by decide +kernel
theorem dL_law_1145 : decode cL_law 1145 = .ok (.aload_n 0, 1) := by decide +kernel
theorem dL_law_1146 : decode cL_law 1146 = .ok (.iload_n 3, 1) := by decide +kernel
theorem dL_law_1147 : decode cL_law 1147 = .ok (.iconst 2, 1) := by decide +kernel
theorem dL_law_1148 : decode cL_law 1148 = .ok (.iadd, 1) := by decide +kernel
theorem dL_law_1149 : decode cL_law 1149 = .ok (.iaload, 1) := by decide +kernel
theorem dL_law_1150 : decode cL_law 1150 = .ok (.aload_n 0, 1) := by decide +kernel
theorem dL_law_1151 : decode cL_law 1151 = .ok (.iload_n 3, 1) := by decide +kernel
theorem dL_law_1152 : decode cL_law 1152 = .ok (.iconst 3, 1) := by decide +kernel
theorem dL_law_1153 : decode cL_law 1153 = .ok (.iadd, 1) := by decide +kernel
theorem dL_law_1154 : decode cL_law 1154 = .ok (.iaload, 1) := by decide +kernel
theorem dL_law_1155 : decode cL_law 1155 = .ok (.i2l, 1) := by decide +kernel
theorem dL_law_1156 : decode cL_law 1156 = .ok (.bipush 32, 2) := by decide +kernel
theorem dL_law_1158 : decode cL_law 1158 = .ok (.lshl, 1) := by decide +kernel
theorem dL_law_1159 : decode cL_law 1159 = .ok (.aload_n 0, 1) := by decide +kernel
theorem dL_law_1160 : decode cL_law 1160 = .ok (.iload_n 3, 1) := by decide +kernel
theorem dL_law_1161 : decode cL_law 1161 = .ok (.iconst 4, 1) := by decide +kernel
theorem dL_law_1162 : decode cL_law 1162 = .ok (.iadd, 1) := by decide +kernel
theorem dL_law_1163 : decode cL_law 1163 = .ok (.iaload, 1) := by decide +kernel
theorem dL_law_1164 : decode cL_law 1164 = .ok (.i2l, 1) := by decide +kernel
theorem dL_law_1165 : decode cL_law 1165 = .ok (.ldc2_w 142, 3) := by decide +kernel
theorem dL_law_1168 : decode cL_law 1168 = .ok (.land, 1) := by decide +kernel
theorem dL_law_1169 : decode cL_law 1169 = .ok (.lor, 1) := by decide +kernel
theorem dL_law_1170 : decode cL_law 1170 = .ok (.invokevirtual 148, 3) := by decide +kernel
theorem dL_law_1173 : decode cL_law 1173 = .ok (.if_icmp .eq 158, 3) := by decide +kernel
theorem dL_law_1176 : decode cL_law 1176 = .ok (.iconst 0, 1) := by decide +kernel
theorem dL_law_1177 : decode cL_law 1177 = .ok (.ireturn, 1) := by decide +kernel
theorem dL_law_1178 : decode cL_law 1178 = .ok (.aload_n 1, 1) := by decide +kernel
theorem dL_law_1179 : decode cL_law 1179 = .ok (.aload_n 0, 1) := by decide +kernel
theorem dL_law_1180 : decode cL_law 1180 = .ok (.iload_n 3, 1) := by decide +kernel
theorem dL_law_1181 : decode cL_law 1181 = .ok (.iconst 1, 1) := by decide +kernel
theorem dL_law_1182 : decode cL_law 1182 = .ok (.iadd, 1) := by decide +kernel
theorem dL_law_1183 : decode cL_law 1183 = .ok (.iaload, 1) := by decide +kernel
theorem dL_law_1184 : decode cL_law 1184 = .ok (.aload_n 0, 1) := by decide +kernel
theorem dL_law_1185 : decode cL_law 1185 = .ok (.iload_n 3, 1) := by decide +kernel
theorem dL_law_1186 : decode cL_law 1186 = .ok (.iconst 2, 1) := by decide +kernel
theorem dL_law_1187 : decode cL_law 1187 = .ok (.iadd, 1) := by decide +kernel
theorem dL_law_1188 : decode cL_law 1188 = .ok (.iaload, 1) := by decide +kernel
theorem dL_law_1189 : decode cL_law 1189 = .ok (.invokevirtual 149, 3) := by decide +kernel
theorem dL_law_1192 : decode cL_law 1192 = .ok (.aload_n 2, 1) := by decide +kernel
theorem dL_law_1193 : decode cL_law 1193 = .ok (.aload_n 0, 1) := by decide +kernel
theorem dL_law_1194 : decode cL_law 1194 = .ok (.iload_n 3, 1) := by decide +kernel
theorem dL_law_1195 : decode cL_law 1195 = .ok (.iconst 1, 1) := by decide +kernel
theorem dL_law_1196 : decode cL_law 1196 = .ok (.iadd, 1) := by decide +kernel
theorem dL_law_1197 : decode cL_law 1197 = .ok (.iaload, 1) := by decide +kernel
theorem dL_law_1198 : decode cL_law 1198 = .ok (.aload_n 0, 1) := by decide +kernel
theorem dL_law_1199 : decode cL_law 1199 = .ok (.iload_n 3, 1) := by decide +kernel
theorem dL_law_1200 : decode cL_law 1200 = .ok (.iconst 2, 1) := by decide +kernel
theorem dL_law_1201 : decode cL_law 1201 = .ok (.iadd, 1) := by decide +kernel
theorem dL_law_1202 : decode cL_law 1202 = .ok (.iaload, 1) := by decide +kernel
theorem dL_law_1203 : decode cL_law 1203 = .ok (.invokevirtual 153, 3) := by decide +kernel
theorem dL_law_1206 : decode cL_law 1206 = .ok (.lcmp, 1) := by decide +kernel
theorem dL_law_1207 : decode cL_law 1207 = .ok (.ifCond .eq 124, 3) := by decide +kernel
theorem dL_law_1210 : decode cL_law 1210 = .ok (.iconst 0, 1) := by decide +kernel
theorem dL_law_1211 : decode cL_law 1211 = .ok (.ireturn, 1) := by decide +kernel
theorem dL_law_1212 : decode cL_law 1212 = .ok (.aload_n 1, 1) := by decide +kernel
theorem dL_law_1213 : decode cL_law 1213 = .ok (.aload_n 0, 1) := by decide +kernel
theorem dL_law_1214 : decode cL_law 1214 = .ok (.iload_n 3, 1) := by decide +kernel
theorem dL_law_1215 : decode cL_law 1215 = .ok (.iconst 1, 1) := by decide +kernel
theorem dL_law_1216 : decode cL_law 1216 = .ok (.iadd, 1) := by decide +kernel
theorem dL_law_1217 : decode cL_law 1217 = .ok (.iaload, 1) := by decide +kernel
theorem dL_law_1218 : decode cL_law 1218 = .ok (.aload_n 0, 1) := by decide +kernel
theorem dL_law_1219 : decode cL_law 1219 = .ok (.iload_n 3, 1) := by decide +kernel
theorem dL_law_1220 : decode cL_law 1220 = .ok (.iconst 2, 1) := by decide +kernel
theorem dL_law_1221 : decode cL_law 1221 = .ok (.iadd, 1) := by decide +kernel
theorem dL_law_1222 : decode cL_law 1222 = .ok (.iaload, 1) := by decide +kernel
theorem dL_law_1223 : decode cL_law 1223 = .ok (.aload_n 0, 1) := by decide +kernel
theorem dL_law_1224 : decode cL_law 1224 = .ok (.iload_n 3, 1) := by decide +kernel
theorem dL_law_1225 : decode cL_law 1225 = .ok (.iconst 3, 1) := by decide +kernel
theorem dL_law_1226 : decode cL_law 1226 = .ok (.iadd, 1) := by decide +kernel
theorem dL_law_1227 : decode cL_law 1227 = .ok (.iaload, 1) := by decide +kernel
theorem dL_law_1228 : decode cL_law 1228 = .ok (.aload_n 0, 1) := by decide +kernel
theorem dL_law_1229 : decode cL_law 1229 = .ok (.iload_n 3, 1) := by decide +kernel
theorem dL_law_1230 : decode cL_law 1230 = .ok (.iconst 4, 1) := by decide +kernel
theorem dL_law_1231 : decode cL_law 1231 = .ok (.iadd, 1) := by decide +kernel
theorem dL_law_1232 : decode cL_law 1232 = .ok (.iaload, 1) := by decide +kernel
theorem dL_law_1233 : decode cL_law 1233 = .ok (.aload_n 0, 1) := by decide +kernel
theorem dL_law_1234 : decode cL_law 1234 = .ok (.iload_n 3, 1) := by decide +kernel
theorem dL_law_1235 : decode cL_law 1235 = .ok (.iconst 5, 1) := by decide +kernel
theorem dL_law_1236 : decode cL_law 1236 = .ok (.iadd, 1) := by decide +kernel
theorem dL_law_1237 : decode cL_law 1237 = .ok (.iaload, 1) := by decide +kernel
theorem dL_law_1238 : decode cL_law 1238 = .ok (.invokevirtual 154, 3) := by decide +kernel
theorem dL_law_1241 : decode cL_law 1241 = .ok (.aload_n 2, 1) := by decide +kernel
theorem dL_law_1242 : decode cL_law 1242 = .ok (.aload_n 0, 1) := by decide +kernel
theorem dL_law_1243 : decode cL_law 1243 = .ok (.iload_n 3, 1) := by decide +kernel
theorem dL_law_1244 : decode cL_law 1244 = .ok (.iconst 1, 1) := by decide +kernel
theorem dL_law_1245 : decode cL_law 1245 = .ok (.iadd, 1) := by decide +kernel
theorem dL_law_1246 : decode cL_law 1246 = .ok (.iaload, 1) := by decide +kernel
theorem dL_law_1247 : decode cL_law 1247 = .ok (.aload_n 0, 1) := by decide +kernel
theorem dL_law_1248 : decode cL_law 1248 = .ok (.iload_n 3, 1) := by decide +kernel
theorem dL_law_1249 : decode cL_law 1249 = .ok (.iconst 2, 1) := by decide +kernel
theorem dL_law_1250 : decode cL_law 1250 = .ok (.iadd, 1) := by decide +kernel
theorem dL_law_1251 : decode cL_law 1251 = .ok (.iaload, 1) := by decide +kernel
theorem dL_law_1252 : decode cL_law 1252 = .ok (.aload_n 0, 1) := by decide +kernel
theorem dL_law_1253 : decode cL_law 1253 = .ok (.iload_n 3, 1) := by decide +kernel
theorem dL_law_1254 : decode cL_law 1254 = .ok (.iconst 3, 1) := by decide +kernel
theorem dL_law_1255 : decode cL_law 1255 = .ok (.iadd, 1) := by decide +kernel
theorem dL_law_1256 : decode cL_law 1256 = .ok (.iaload, 1) := by decide +kernel
theorem dL_law_1257 : decode cL_law 1257 = .ok (.aload_n 0, 1) := by decide +kernel
theorem dL_law_1258 : decode cL_law 1258 = .ok (.iload_n 3, 1) := by decide +kernel
theorem dL_law_1259 : decode cL_law 1259 = .ok (.iconst 4, 1) := by decide +kernel
theorem dL_law_1260 : decode cL_law 1260 = .ok (.iadd, 1) := by decide +kernel
theorem dL_law_1261 : decode cL_law 1261 = .ok (.iaload, 1) := by decide +kernel
theorem dL_law_1262 : decode cL_law 1262 = .ok (.aload_n 0, 1) := by decide +kernel
theorem dL_law_1263 : decode cL_law 1263 = .ok (.iload_n 3, 1) := by decide +kernel
theorem dL_law_1264 : decode cL_law 1264 = .ok (.iconst 5, 1) := by decide +kernel
theorem dL_law_1265 : decode cL_law 1265 = .ok (.iadd, 1) := by decide +kernel
theorem dL_law_1266 : decode cL_law 1266 = .ok (.iaload, 1) := by decide +kernel
theorem dL_law_1267 : decode cL_law 1267 = .ok (.invokevirtual 158, 3) := by decide +kernel
theorem dL_law_1270 : decode cL_law 1270 = .ok (.if_icmp .eq 61, 3) := by decide +kernel
theorem dL_law_1273 : decode cL_law 1273 = .ok (.iconst 0, 1) := by decide +kernel
theorem dL_law_1274 : decode cL_law 1274 = .ok (.ireturn, 1) := by decide +kernel
theorem dL_law_1275 : decode cL_law 1275 = .ok (.aload_n 1, 1) := by decide +kernel
theorem dL_law_1276 : decode cL_law 1276 = .ok (.aload_n 0, 1) := by decide +kernel
theorem dL_law_1277 : decode cL_law 1277 = .ok (.iload_n 3, 1) := by decide +kernel
theorem dL_law_1278 : decode cL_law 1278 = .ok (.iconst 1, 1) := by decide +kernel
theorem dL_law_1279 : decode cL_law 1279 = .ok (.iadd, 1) := by decide +kernel
theorem dL_law_1280 : decode cL_law 1280 = .ok (.iaload, 1) := by decide +kernel
theorem dL_law_1281 : decode cL_law 1281 = .ok (.aload_n 0, 1) := by decide +kernel
theorem dL_law_1282 : decode cL_law 1282 = .ok (.iload_n 3, 1) := by decide +kernel
theorem dL_law_1283 : decode cL_law 1283 = .ok (.iconst 2, 1) := by decide +kernel
theorem dL_law_1284 : decode cL_law 1284 = .ok (.iadd, 1) := by decide +kernel
theorem dL_law_1285 : decode cL_law 1285 = .ok (.iaload, 1) := by decide +kernel
theorem dL_law_1286 : decode cL_law 1286 = .ok (.invokevirtual 159, 3) := by decide +kernel
theorem dL_law_1289 : decode cL_law 1289 = .ok (.aload_n 2, 1) := by decide +kernel
theorem dL_law_1290 : decode cL_law 1290 = .ok (.aload_n 0, 1) := by decide +kernel
theorem dL_law_1291 : decode cL_law 1291 = .ok (.iload_n 3, 1) := by decide +kernel
theorem dL_law_1292 : decode cL_law 1292 = .ok (.iconst 1, 1) := by decide +kernel
theorem dL_law_1293 : decode cL_law 1293 = .ok (.iadd, 1) := by decide +kernel
theorem dL_law_1294 : decode cL_law 1294 = .ok (.iaload, 1) := by decide +kernel
theorem dL_law_1295 : decode cL_law 1295 = .ok (.aload_n 0, 1) := by decide +kernel
theorem dL_law_1296 : decode cL_law 1296 = .ok (.iload_n 3, 1) := by decide +kernel
theorem dL_law_1297 : decode cL_law 1297 = .ok (.iconst 2, 1) := by decide +kernel
theorem dL_law_1298 : decode cL_law 1298 = .ok (.iadd, 1) := by decide +kernel
theorem dL_law_1299 : decode cL_law 1299 = .ok (.iaload, 1) := by decide +kernel
theorem dL_law_1300 : decode cL_law 1300 = .ok (.invokevirtual 162, 3) := by decide +kernel
theorem dL_law_1303 : decode cL_law 1303 = .ok (.if_icmp .eq 28, 3) := by decide +kernel
theorem dL_law_1306 : decode cL_law 1306 = .ok (.iconst 0, 1) := by decide +kernel
theorem dL_law_1307 : decode cL_law 1307 = .ok (.ireturn, 1) := by decide +kernel
theorem dL_law_1308 : decode cL_law 1308 = .ok (.aload_n 1, 1) := by decide +kernel
theorem dL_law_1309 : decode cL_law 1309 = .ok (.aload_n 0, 1) := by decide +kernel
theorem dL_law_1310 : decode cL_law 1310 = .ok (.iload_n 3, 1) := by decide +kernel
theorem dL_law_1311 : decode cL_law 1311 = .ok (.iconst 1, 1) := by decide +kernel
theorem dL_law_1312 : decode cL_law 1312 = .ok (.iadd, 1) := by decide +kernel
theorem dL_law_1313 : decode cL_law 1313 = .ok (.iaload, 1) := by decide +kernel
theorem dL_law_1314 : decode cL_law 1314 = .ok (.invokevirtual 163, 3) := by decide +kernel
theorem dL_law_1317 : decode cL_law 1317 = .ok (.aload_n 2, 1) := by decide +kernel
theorem dL_law_1318 : decode cL_law 1318 = .ok (.aload_n 0, 1) := by decide +kernel
theorem dL_law_1319 : decode cL_law 1319 = .ok (.iload_n 3, 1) := by decide +kernel
theorem dL_law_1320 : decode cL_law 1320 = .ok (.iconst 1, 1) := by decide +kernel
theorem dL_law_1321 : decode cL_law 1321 = .ok (.iadd, 1) := by decide +kernel
theorem dL_law_1322 : decode cL_law 1322 = .ok (.iaload, 1) := by decide +kernel
theorem dL_law_1323 : decode cL_law 1323 = .ok (.invokevirtual 166, 3) := by decide +kernel
theorem dL_law_1326 : decode cL_law 1326 = .ok (.if_icmp .eq 5, 3) := by decide +kernel
theorem dL_law_1329 : decode cL_law 1329 = .ok (.iconst 0, 1) := by decide +kernel
theorem dL_law_1330 : decode cL_law 1330 = .ok (.ireturn, 1) := by decide +kernel
theorem dL_law_1331 : decode cL_law 1331 = .ok (.iinc 3 6, 3) := by decide +kernel
theorem dL_law_1334 : decode cL_law 1334 = .ok (.goto (-1316), 3) := by decide +kernel
theorem dL_law_1337 : decode cL_law 1337 = .ok (.iconst 1, 1) := by decide +kernel
theorem dL_law_1338 : decode cL_law 1338 = .ok (.ireturn, 1) := by decide +kernel
