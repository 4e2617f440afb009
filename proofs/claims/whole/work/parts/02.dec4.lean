theorem dX10_init_0 : decode cX10_init 0 = .ok (.aload_n 0, 1) := by decide +kernel
theorem dX10_init_1 : decode cX10_init 1 = .ok (.invokespecial 1, 3) := by decide +kernel
theorem dX10_init_4 : decode cX10_init 4 = .ok (.aload_n 0, 1) := by decide +kernel
theorem dX10_init_5 : decode cX10_init 5 = .ok (.new 7, 3) := by decide +kernel
theorem dX10_init_8 : decode cX10_init 8 = .ok (.dup, 1) := by decide +kernel
theorem dX10_init_9 : decode cX10_init 9 = .ok (.invokespecial 9, 3) := by decide +kernel
theorem dX10_init_12 : decode cX10_init 12 = .ok (.putfield 10, 3) := by decide +kernel
theorem dX10_init_15 : decode cX10_init 15 = .ok (.aload_n 0, 1) := by decide +kernel
theorem dX10_init_16 : decode cX10_init 16 = .ok (.new 7, 3) := by decide +kernel
theorem dX10_init_19 : decode cX10_init 19 = .ok (.dup, 1) := by decide +kernel
theorem dX10_init_20 : decode cX10_init 20 = .ok (.invokespecial 9, 3) := by decide +kernel
theorem dX10_init_23 : decode cX10_init 23 = .ok (.putfield 16, 3) := by decide +kernel
theorem dX10_init_26 : decode cX10_init 26 = .ok (.aload_n 0, 1) := by decide +kernel
theorem dX10_init_27 : decode cX10_init 27 = .ok (.new 19, 3) := by decide +kernel
theorem dX10_init_30 : decode cX10_init 30 = .ok (.dup, 1) := by decide +kernel
theorem dX10_init_31 : decode cX10_init 31 = .ok (.invokespecial 21, 3) := by decide +kernel
theorem dX10_init_34 : decode cX10_init 34 = .ok (.putfield 22, 3) := by decide +kernel
theorem dX10_init_37 : decode cX10_init 37 = .ok (.aload_n 0, 1) := by decide +kernel
theorem dX10_init_38 : decode cX10_init 38 = .ok (.new 26, 3) := by decide +kernel
theorem dX10_init_41 : decode cX10_init 41 = .ok (.dup, 1) := by decide +kernel
theorem dX10_init_42 : decode cX10_init 42 = .ok (.invokespecial 28, 3) := by decide +kernel
theorem dX10_init_45 : decode cX10_init 45 = .ok (.putfield 29, 3) := by decide +kernel
theorem dX10_init_48 : decode cX10_init 48 = .ok (.aload_n 0, 1) := by decide +kernel
theorem dX10_init_49 : decode cX10_init 49 = .ok (.new 33, 3) := by decide +kernel
theorem dX10_init_52 : decode cX10_init 52 = .ok (.dup, 1) := by decide +kernel
theorem dX10_init_53 : decode cX10_init 53 = .ok (.invokespecial 35, 3) := by decide +kernel
theorem dX10_init_56 : decode cX10_init 56 = .ok (.putfield 36, 3) := by decide +kernel
theorem dX10_init_59 : decode cX10_init 59 = .ok (.aload_n 0, 1) := by decide +kernel
theorem dX10_init_60 : decode cX10_init 60 = .ok (.new 40, 3) := by decide +kernel
theorem dX10_init_63 : decode cX10_init 63 = .ok (.dup, 1) := by decide +kernel
theorem dX10_init_64 : decode cX10_init 64 = .ok (.invokespecial 42, 3) := by decide +kernel
theorem dX10_init_67 : decode cX10_init 67 = .ok (.putfield 43, 3) := by decide +kernel
theorem dX10_init_70 : decode cX10_init 70 = .ok (.aload_n 0, 1) := by decide +kernel
theorem dX10_init_71 : decode cX10_init 71 = .ok (.new 47, 3) := by decide +kernel
theorem dX10_init_74 : decode cX10_init 74 = .ok (.dup, 1) := by decide +kernel
theorem dX10_init_75 : decode cX10_init 75 = .ok (.invokespecial 49, 3) := by decide +kernel
theorem dX10_init_78 : decode cX10_init 78 = .ok (.putfield 50, 3) := by decide +kernel
theorem dX10_init_81 : decode cX10_init 81 = .ok (.aload_n 0, 1) := by decide +kernel
theorem dX10_init_82 : decode cX10_init 82 = .ok (.bipush 12, 2) := by decide +kernel
theorem dX10_init_84 : decode cX10_init 84 = .ok (.newarray .int, 2) := by decide +kernel
theorem dX10_init_86 : decode cX10_init 86 = .ok (.putfield 54, 3) := by decide +kernel
theorem dX10_init_89 : decode cX10_init 89 = .ok (.aload_n 0, 1) := by decide +kernel
theorem dX10_init_90 : decode cX10_init 90 = .ok (.getfield 10, 3) := by decide +kernel
theorem dX10_init_93 : decode cX10_init 93 = .ok (.new 19, 3) := by decide +kernel
theorem dX10_init_96 : decode cX10_init 96 = .ok (.dup, 1) := by decide +kernel
theorem dX10_init_97 : decode cX10_init 97 = .ok (.invokespecial 21, 3) := by decide +kernel
theorem dX10_init_100 : decode cX10_init 100 = .ok (.invokevirtual 58, 3) := by decide +kernel
theorem dX10_init_103 : decode cX10_init 103 = .ok (.return_, 1) := by decide +kernel
theorem dX10_feed_0 : decode cX10_feed 0 = .ok (.aload_n 0, 1) := by decide +kernel
theorem dX10_feed_1 : decode cX10_feed 1 = .ok (.getfield 22, 3) := by decide +kernel
theorem dX10_feed_4 : decode cX10_feed 4 = .ok (.getfield 62, 3) := by decide +kernel
theorem dX10_feed_7 : decode cX10_feed 7 = .ok (.sipush 1980, 3) := by decide +kernel
theorem dX10_feed_10 : decode cX10_feed 10 = .ok (.if_icmp .le 6, 3) := by decide +kernel
theorem dX10_feed_13 : decode cX10_feed 13 = .ok (.ldc 66, 2) := by decide +kernel
theorem dX10_feed_15 : decode cX10_feed 15 = .ok (.ireturn, 1) := by decide +kernel
theorem dX10_feed_16 : decode cX10_feed 16 = .ok (.aload_n 0, 1) := by decide +kernel
theorem dX10_feed_17 : decode cX10_feed 17 = .ok (.getfield 22, 3) := by decide +kernel
theorem dX10_feed_20 : decode cX10_feed 20 = .ok (.iload_n 1, 1) := by decide +kernel
theorem dX10_feed_21 : decode cX10_feed 21 = .ok (.invokevirtual 67, 3) := by decide +kernel
theorem dX10_feed_24 : decode cX10_feed 24 = .ok (.aload_n 0, 1) := by decide +kernel
theorem dX10_feed_25 : decode cX10_feed 25 = .ok (.getfield 22, 3) := by decide +kernel
theorem dX10_feed_28 : decode cX10_feed 28 = .ok (.iload_n 2, 1) := by decide +kernel
theorem dX10_feed_29 : decode cX10_feed 29 = .ok (.invokevirtual 67, 3) := by decide +kernel
theorem dX10_feed_32 : decode cX10_feed 32 = .ok (.aload_n 0, 1) := by decide +kernel
theorem dX10_feed_33 : decode cX10_feed 33 = .ok (.getfield 22, 3) := by decide +kernel
theorem dX10_feed_36 : decode cX10_feed 36 = .ok (.iload_n 3, 1) := by decide +kernel
theorem dX10_feed_37 : decode cX10_feed 37 = .ok (.invokevirtual 67, 3) := by decide +kernel
theorem dX10_feed_40 : decode cX10_feed 40 = .ok (.aload_n 0, 1) := by decide +kernel
theorem dX10_feed_41 : decode cX10_feed 41 = .ok (.getfield 22, 3) := by decide +kernel
theorem dX10_feed_44 : decode cX10_feed 44 = .ok (.iload 4, 2) := by decide +kernel
theorem dX10_feed_46 : decode cX10_feed 46 = .ok (.invokevirtual 67, 3) := by decide +kernel
theorem dX10_feed_49 : decode cX10_feed 49 = .ok (.aload_n 0, 1) := by decide +kernel
theorem dX10_feed_50 : decode cX10_feed 50 = .ok (.getfield 22, 3) := by decide +kernel
theorem dX10_feed_53 : decode cX10_feed 53 = .ok (.iload 5, 2) := by decide +kernel
theorem dX10_feed_55 : decode cX10_feed 55 = .ok (.invokevirtual 67, 3) := by decide +kernel
theorem dX10_feed_58 : decode cX10_feed 58 = .ok (.aload_n 0, 1) := by decide +kernel
theorem dX10_feed_59 : decode cX10_feed 59 = .ok (.getfield 22, 3) := by decide +kernel
theorem dX10_feed_62 : decode cX10_feed 62 = .ok (.getfield 62, 3) := by decide +kernel
theorem dX10_feed_65 : decode cX10_feed 65 = .ok (.ireturn, 1) := by decide +kernel
theorem dX10_end_0 : decode cX10_end 0 = .ok (.iload_n 1, 1) := by decide +kernel
theorem dX10_end_1 : decode cX10_end 1 = .ok (.ifCond .lt 14, 3) := by decide +kernel
theorem dX10_end_4 : decode cX10_end 4 = .ok (.iload_n 1, 1) := by decide +kernel
theorem dX10_end_5 : decode cX10_end 5 = .ok (.aload_n 0, 1) := by decide +kernel
theorem dX10_end_6 : decode cX10_end 6 = .ok (.getfield 22, 3) := by decide +kernel
theorem dX10_end_9 : decode cX10_end 9 = .ok (.getfield 62, 3) := by decide +kernel
theorem dX10_end_12 : decode cX10_end 12 = .ok (.if_icmp .le 6, 3) := by decide +kernel
theorem dX10_end_15 : decode cX10_end 15 = .ok (.ldc 71, 2) := by decide +kernel
theorem dX10_end_17 : decode cX10_end 17 = .ok (.ireturn, 1) := by decide +kernel
theorem dX10_end_18 : decode cX10_end 18 = .ok (.aload_n 0, 1) := by decide +kernel
theorem dX10_end_19 : decode cX10_end 19 = .ok (.getfield 22, 3) := by decide +kernel
theorem dX10_end_22 : decode cX10_end 22 = .ok (.iload_n 1, 1) := by decide +kernel
theorem dX10_end_23 : decode cX10_end 23 = .ok (.putfield 62, 3) := by decide +kernel
theorem dX10_end_26 : decode cX10_end 26 = .ok (.iload_n 1, 1) := by decide +kernel
theorem dX10_end_27 : decode cX10_end 27 = .ok (.ireturn, 1) := by decide +kernel
theorem dX10_load_0 : decode cX10_load 0 = .ok (.aload_n 0, 1) := by decide +kernel
theorem dX10_load_1 : decode cX10_load 1 = .ok (.getfield 29, 3) := by decide +kernel
theorem dX10_load_4 : decode cX10_load 4 = .ok (.invokevirtual 72, 3) := by decide +kernel
theorem dX10_load_7 : decode cX10_load 7 = .ok (.aload_n 0, 1) := by decide +kernel
theorem dX10_load_8 : decode cX10_load 8 = .ok (.getfield 16, 3) := by decide +kernel
theorem dX10_load_11 : decode cX10_load 11 = .ok (.aload_n 0, 1) := by decide +kernel
theorem dX10_load_12 : decode cX10_load 12 = .ok (.getfield 22, 3) := by decide +kernel
theorem dX10_load_15 : decode cX10_load 15 = .ok (.invokevirtual 58, 3) := by decide +kernel
theorem dX10_load_18 : decode cX10_load 18 = .ok (.aload_n 0, 1) := by decide +kernel
theorem dX10_load_19 : decode cX10_load 19 = .ok (.getfield 36, 3) := by decide +kernel
theorem dX10_load_22 : decode cX10_load 22 = .ok (.aload_n 0, 1) := by decide +kernel
theorem dX10_load_23 : decode cX10_load 23 = .ok (.getfield 16, 3) := by decide +kernel
theorem dX10_load_26 : decode cX10_load 26 = .ok (.aload_n 0, 1) := by decide +kernel
theorem dX10_load_27 : decode cX10_load 27 = .ok (.getfield 29, 3) := by decide +kernel
theorem dX10_load_30 : decode cX10_load 30 = .ok (.invokevirtual 75, 3) := by decide +kernel
theorem dX10_load_33 : decode cX10_load 33 = .ok (.ifCond .eq 18, 3) := by decide +kernel
theorem dX10_load_36 : decode cX10_load 36 = .ok (.aload_n 0, 1) := by decide +kernel
theorem dX10_load_37 : decode cX10_load 37 = .ok (.getfield 43, 3) := by decide +kernel
theorem dX10_load_40 : decode cX10_load 40 = .ok (.aload_n 0, 1) := by decide +kernel
theorem dX10_load_41 : decode cX10_load 41 = .ok (.getfield 16, 3) := by decide +kernel
theorem dX10_load_44 : decode cX10_load 44 = .ok (.aload_n 0, 1) := by decide +kernel
theorem dX10_load_45 : decode cX10_load 45 = .ok (.getfield 29, 3) := by decide +kernel
theorem dX10_load_48 : decode cX10_load 48 = .ok (.invokevirtual 79, 3) := by decide +kernel
theorem dX10_load_51 : decode cX10_load 51 = .ok (.aload_n 0, 1) := by decide +kernel
theorem dX10_load_52 : decode cX10_load 52 = .ok (.getfield 29, 3) := by decide +kernel
theorem dX10_load_55 : decode cX10_load 55 = .ok (.getfield 83, 3) := by decide +kernel
theorem dX10_load_58 : decode cX10_load 58 = .ok (.ifCond .eq 22, 3) := by decide +kernel
theorem dX10_load_61 : decode cX10_load 61 = .ok (.aload_n 0, 1) := by decide +kernel
theorem dX10_load_62 : decode cX10_load 62 = .ok (.getfield 22, 3) := by decide +kernel
theorem dX10_load_65 : decode cX10_load 65 = .ok (.iconst 0, 1) := by decide +kernel
theorem dX10_load_66 : decode cX10_load 66 = .ok (.putfield 62, 3) := by decide +kernel
theorem dX10_load_69 : decode cX10_load 69 = .ok (.bipush (-10), 2) := by decide +kernel
theorem dX10_load_71 : decode cX10_load 71 = .ok (.aload_n 0, 1) := by decide +kernel
theorem dX10_load_72 : decode cX10_load 72 = .ok (.getfield 29, 3) := by decide +kernel
theorem dX10_load_75 : decode cX10_load 75 = .ok (.getfield 83, 3) := by decide +kernel
theorem dX10_load_78 : decode cX10_load 78 = .ok (.isub, 1) := by decide +kernel
theorem dX10_load_79 : decode cX10_load 79 = .ok (.ireturn, 1) := by decide +kernel
theorem dX10_load_80 : decode cX10_load 80 = .ok (.aload_n 0, 1) := by decide +kernel
theorem dX10_load_81 : decode cX10_load 81 = .ok (.invokevirtual 86, 3) := by decide +kernel
theorem dX10_load_84 : decode cX10_load 84 = .ok (.aload_n 0, 1) := by decide +kernel
theorem dX10_load_85 : decode cX10_load 85 = .ok (.getfield 10, 3) := by decide +kernel
theorem dX10_load_88 : decode cX10_load 88 = .ok (.getfield 89, 3) := by decide +kernel
theorem dX10_load_91 : decode cX10_load 91 = .ok (.ireturn, 1) := by decide +kernel
theorem dX10_takeSpare_0 : decode cX10_takeSpare 0 = .ok (.aload_n 0, 1) := by decide +kernel
theorem dX10_takeSpare_1 : decode cX10_takeSpare 1 = .ok (.getfield 10, 3) := by decide +kernel
theorem dX10_takeSpare_4 : decode cX10_takeSpare 4 = .ok (.astore_n 1, 1) := by decide +kernel
theorem dX10_takeSpare_5 : decode cX10_takeSpare 5 = .ok (.aload_n 0, 1) := by decide +kernel
theorem dX10_takeSpare_6 : decode cX10_takeSpare 6 = .ok (.aload_n 0, 1) := by decide +kernel
theorem dX10_takeSpare_7 : decode cX10_takeSpare 7 = .ok (.getfield 16, 3) := by decide +kernel
theorem dX10_takeSpare_10 : decode cX10_takeSpare 10 = .ok (.putfield 10, 3) := by decide +kernel
theorem dX10_takeSpare_13 : decode cX10_takeSpare 13 = .ok (.aload_n 0, 1) := by decide +kernel
theorem dX10_takeSpare_14 : decode cX10_takeSpare 14 = .ok (.aload_n 1, 1) := by decide +kernel
theorem dX10_takeSpare_15 : decode cX10_takeSpare 15 = .ok (.putfield 16, 3) := by decide +kernel
theorem dX10_takeSpare_18 : decode cX10_takeSpare 18 = .ok (.aload_n 0, 1) := by decide +kernel
theorem dX10_takeSpare_19 : decode cX10_takeSpare 19 = .ok (.aload_n 1, 1) := by decide +kernel
theorem dX10_takeSpare_20 : decode cX10_takeSpare 20 = .ok (.getfield 92, 3) := by decide +kernel
theorem dX10_takeSpare_23 : decode cX10_takeSpare 23 = .ok (.putfield 22, 3) := by decide +kernel
theorem dX10_takeSpare_26 : decode cX10_takeSpare 26 = .ok (.aload_n 0, 1) := by decide +kernel
theorem dX10_takeSpare_27 : decode cX10_takeSpare 27 = .ok (.getfield 22, 3) := by decide +kernel
theorem dX10_takeSpare_30 : decode cX10_takeSpare 30 = .ok (.iconst 0, 1) := by decide +kernel
theorem dX10_takeSpare_31 : decode cX10_takeSpare 31 = .ok (.putfield 62, 3) := by decide +kernel
theorem dX10_takeSpare_34 : decode cX10_takeSpare 34 = .ok (.aload_n 0, 1) := by decide +kernel
theorem dX10_takeSpare_35 : decode cX10_takeSpare 35 = .ok (.getfield 50, 3) := by decide +kernel
theorem dX10_takeSpare_38 : decode cX10_takeSpare 38 = .ok (.iconst 0, 1) := by decide +kernel
theorem dX10_takeSpare_39 : decode cX10_takeSpare 39 = .ok (.putfield 95, 3) := by decide +kernel
theorem dX10_takeSpare_42 : decode cX10_takeSpare 42 = .ok (.aload_n 0, 1) := by decide +kernel
theorem dX10_takeSpare_43 : decode cX10_takeSpare 43 = .ok (.iconst 0, 1) := by decide +kernel
theorem dX10_takeSpare_44 : decode cX10_takeSpare 44 = .ok (.putfield 98, 3) := by decide +kernel
theorem dX10_takeSpare_47 : decode cX10_takeSpare 47 = .ok (.return_, 1) := by decide +kernel
theorem dX10_fault_0 : decode cX10_fault 0 = .ok (.iload_n 1, 1) := by decide +kernel
theorem dX10_fault_1 : decode cX10_fault 1 = .ok (.ifCond .lt 8, 3) := by decide +kernel
theorem dX10_fault_4 : decode cX10_fault 4 = .ok (.iload_n 1, 1) := by decide +kernel
theorem dX10_fault_5 : decode cX10_fault 5 = .ok (.iconst 1, 1) := by decide +kernel
theorem dX10_fault_6 : decode cX10_fault 6 = .ok (.if_icmp .le 6, 3) := by decide +kernel
theorem dX10_fault_9 : decode cX10_fault 9 = .ok (.ldc 71, 2) := by decide +kernel
theorem dX10_fault_11 : decode cX10_fault 11 = .ok (.ireturn, 1) := by decide +kernel
theorem dX10_fault_12 : decode cX10_fault 12 = .ok (.iload_n 1, 1) := by decide +kernel
theorem dX10_fault_13 : decode cX10_fault 13 = .ok (.ifCond .ne 11, 3) := by decide +kernel
theorem dX10_fault_16 : decode cX10_fault 16 = .ok (.aload_n 0, 1) := by decide +kernel
theorem dX10_fault_17 : decode cX10_fault 17 = .ok (.getfield 29, 3) := by decide +kernel
theorem dX10_fault_20 : decode cX10_fault 20 = .ok (.getfield 83, 3) := by decide +kernel
theorem dX10_fault_23 : decode cX10_fault 23 = .ok (.ireturn, 1) := by decide +kernel
theorem dX10_fault_24 : decode cX10_fault 24 = .ok (.aload_n 0, 1) := by decide +kernel
theorem dX10_fault_25 : decode cX10_fault 25 = .ok (.getfield 29, 3) := by decide +kernel
theorem dX10_fault_28 : decode cX10_fault 28 = .ok (.getfield 83, 3) := by decide +kernel
theorem dX10_fault_31 : decode cX10_fault 31 = .ok (.ifCond .ne 8, 3) := by decide +kernel
theorem dX10_fault_34 : decode cX10_fault 34 = .ok (.ldc 101, 2) := by decide +kernel
theorem dX10_fault_36 : decode cX10_fault 36 = .ok (.goto 10, 3) := by decide +kernel
theorem dX10_fault_39 : decode cX10_fault 39 = .ok (.aload_n 0, 1) := by decide +kernel
theorem dX10_fault_40 : decode cX10_fault 40 = .ok (.getfield 29, 3) := by decide +kernel
theorem dX10_fault_43 : decode cX10_fault 43 = .ok (.getfield 102, 3) := by decide +kernel
theorem dX10_fault_46 : decode cX10_fault 46 = .ok (.ireturn, 1) := by decide +kernel
theorem dX10_cause_0 : decode cX10_cause 0 = .ok (.aload_n 0, 1) := by decide +kernel
theorem dX10_cause_1 : decode cX10_cause 1 = .ok (.getfield 105, 3) := by decide +kernel
theorem dX10_cause_4 : decode cX10_cause 4 = .ok (.ireturn, 1) := by decide +kernel
theorem dX10_told_0 : decode cX10_told 0 = .ok (.aload_n 0, 1) := by decide +kernel
theorem dX10_told_1 : decode cX10_told 1 = .ok (.getfield 10, 3) := by decide +kernel
theorem dX10_told_4 : decode cX10_told 4 = .ok (.iload_n 1, 1) := by decide +kernel
theorem dX10_told_5 : decode cX10_told 5 = .ok (.invokevirtual 108, 3) := by decide +kernel
theorem dX10_told_8 : decode cX10_told 8 = .ok (.astore_n 3, 1) := by decide +kernel
theorem dX10_told_9 : decode cX10_told 9 = .ok (.aload_n 3, 1) := by decide +kernel
theorem dX10_told_10 : decode cX10_told 10 = .ok (.ifnonnull 6, 3) := by decide +kernel
theorem dX10_told_13 : decode cX10_told 13 = .ok (.ldc 112, 2) := by decide +kernel
theorem dX10_told_15 : decode cX10_told 15 = .ok (.ireturn, 1) := by decide +kernel
theorem dX10_told_16 : decode cX10_told 16 = .ok (.iload_n 2, 1) := by decide +kernel
theorem dX10_told_17 : decode cX10_told 17 = .ok (.tableswitch 65 0 4 #[35, 40, 45, 50, 60], 35) := by decide +kernel
theorem dX10_told_52 : decode cX10_told 52 = .ok (.aload_n 3, 1) := by decide +kernel
theorem dX10_told_53 : decode cX10_told 53 = .ok (.getfield 113, 3) := by decide +kernel
theorem dX10_told_56 : decode cX10_told 56 = .ok (.ireturn, 1) := by decide +kernel
theorem dX10_told_57 : decode cX10_told 57 = .ok (.aload_n 3, 1) := by decide +kernel
theorem dX10_told_58 : decode cX10_told 58 = .ok (.getfield 118, 3) := by decide +kernel
theorem dX10_told_61 : decode cX10_told 61 = .ok (.ireturn, 1) := by decide +kernel
theorem dX10_told_62 : decode cX10_told 62 = .ok (.aload_n 3, 1) := by decide +kernel
theorem dX10_told_63 : decode cX10_told 63 = .ok (.getfield 121, 3) := by decide +kernel
theorem dX10_told_66 : decode cX10_told 66 = .ok (.ireturn, 1) := by decide +kernel
theorem dX10_told_67 : decode cX10_told 67 = .ok (.aload_n 3, 1) := by decide +kernel
theorem dX10_told_68 : decode cX10_told 68 = .ok (.getfield 124, 3) := by decide +kernel
theorem dX10_told_71 : decode cX10_told 71 = .ok (.aload_n 3, 1) := by decide +kernel
theorem dX10_told_72 : decode cX10_told 72 = .ok (.getfield 121, 3) := by decide +kernel
theorem dX10_told_75 : decode cX10_told 75 = .ok (.isub, 1) := by decide +kernel
theorem dX10_told_76 : decode cX10_told 76 = .ok (.ireturn, 1) := by decide +kernel
theorem dX10_told_77 : decode cX10_told 77 = .ok (.aload_n 3, 1) := by decide +kernel
theorem dX10_told_78 : decode cX10_told 78 = .ok (.getfield 127, 3) := by decide +kernel
theorem dX10_told_81 : decode cX10_told 81 = .ok (.ireturn, 1) := by decide +kernel
theorem dX10_told_82 : decode cX10_told 82 = .ok (.ldc 71, 2) := by decide +kernel
theorem dX10_told_84 : decode cX10_told 84 = .ok (.ireturn, 1) := by decide +kernel
theorem dX10_hasBody_0 : decode cX10_hasBody 0 = .ok (.aload_n 0, 1) := by decide +kernel
theorem dX10_hasBody_1 : decode cX10_hasBody 1 = .ok (.getfield 10, 3) := by decide +kernel
theorem dX10_hasBody_4 : decode cX10_hasBody 4 = .ok (.iload_n 1, 1) := by decide +kernel
theorem dX10_hasBody_5 : decode cX10_hasBody 5 = .ok (.invokevirtual 108, 3) := by decide +kernel
theorem dX10_hasBody_8 : decode cX10_hasBody 8 = .ok (.astore_n 3, 1) := by decide +kernel
theorem dX10_hasBody_9 : decode cX10_hasBody 9 = .ok (.aload_n 3, 1) := by decide +kernel
theorem dX10_hasBody_10 : decode cX10_hasBody 10 = .ok (.ifnull 11, 3) := by decide +kernel
theorem dX10_hasBody_13 : decode cX10_hasBody 13 = .ok (.aload_n 3, 1) := by decide +kernel
theorem dX10_hasBody_14 : decode cX10_hasBody 14 = .ok (.iload_n 2, 1) := by decide +kernel
theorem dX10_hasBody_15 : decode cX10_hasBody 15 = .ok (.invokevirtual 130, 3) := by decide +kernel
theorem dX10_hasBody_18 : decode cX10_hasBody 18 = .ok (.ifCond .ne 6, 3) := by decide +kernel
theorem dX10_hasBody_21 : decode cX10_hasBody 21 = .ok (.ldc 112, 2) := by decide +kernel
theorem dX10_hasBody_23 : decode cX10_hasBody 23 = .ok (.ireturn, 1) := by decide +kernel
theorem dX10_hasBody_24 : decode cX10_hasBody 24 = .ok (.aload_n 3, 1) := by decide +kernel
theorem dX10_hasBody_25 : decode cX10_hasBody 25 = .ok (.getfield 134, 3) := by decide +kernel
theorem dX10_hasBody_28 : decode cX10_hasBody 28 = .ok (.iload_n 2, 1) := by decide +kernel
theorem dX10_hasBody_29 : decode cX10_hasBody 29 = .ok (.baload, 1) := by decide +kernel
theorem dX10_hasBody_30 : decode cX10_hasBody 30 = .ok (.ifCond .eq 7, 3) := by decide +kernel
theorem dX10_hasBody_33 : decode cX10_hasBody 33 = .ok (.iconst 1, 1) := by decide +kernel
theorem dX10_hasBody_34 : decode cX10_hasBody 34 = .ok (.goto 4, 3) := by decide +kernel
theorem dX10_hasBody_37 : decode cX10_hasBody 37 = .ok (.iconst 0, 1) := by decide +kernel
theorem dX10_hasBody_38 : decode cX10_hasBody 38 = .ok (.ireturn, 1) := by decide +kernel
theorem dX10_value_0 : decode cX10_value 0 = .ok (.aload_n 0, 1) := by decide +kernel
theorem dX10_value_1 : decode cX10_value 1 = .ok (.getfield 10, 3) := by decide +kernel
theorem dX10_value_4 : decode cX10_value 4 = .ok (.iload_n 1, 1) := by decide +kernel
theorem dX10_value_5 : decode cX10_value 5 = .ok (.invokevirtual 108, 3) := by decide +kernel
theorem dX10_value_8 : decode cX10_value 8 = .ok (.astore_n 3, 1) := by decide +kernel
theorem dX10_value_9 : decode cX10_value 9 = .ok (.aload_n 3, 1) := by decide +kernel
theorem dX10_value_10 : decode cX10_value 10 = .ok (.ifnull 11, 3) := by decide +kernel
theorem dX10_value_13 : decode cX10_value 13 = .ok (.aload_n 3, 1) := by decide +kernel
theorem dX10_value_14 : decode cX10_value 14 = .ok (.iload_n 2, 1) := by decide +kernel
theorem dX10_value_15 : decode cX10_value 15 = .ok (.invokevirtual 130, 3) := by decide +kernel
theorem dX10_value_18 : decode cX10_value 18 = .ok (.ifCond .ne 6, 3) := by decide +kernel
theorem dX10_value_21 : decode cX10_value 21 = .ok (.ldc 112, 2) := by decide +kernel
theorem dX10_value_23 : decode cX10_value 23 = .ok (.ireturn, 1) := by decide +kernel
theorem dX10_value_24 : decode cX10_value 24 = .ok (.aload_n 0, 1) := by decide +kernel
theorem dX10_value_25 : decode cX10_value 25 = .ok (.getfield 50, 3) := by decide +kernel
theorem dX10_value_28 : decode cX10_value 28 = .ok (.aload_n 0, 1) := by decide +kernel
theorem dX10_value_29 : decode cX10_value 29 = .ok (.getfield 10, 3) := by decide +kernel
theorem dX10_value_32 : decode cX10_value 32 = .ok (.invokevirtual 138, 3) := by decide +kernel
theorem dX10_value_35 : decode cX10_value 35 = .ok (.aload_n 0, 1) := by decide +kernel
theorem dX10_value_36 : decode cX10_value 36 = .ok (.getfield 50, 3) := by decide +kernel
theorem dX10_value_39 : decode cX10_value 39 = .ok (.iload_n 1, 1) := by decide +kernel
theorem dX10_value_40 : decode cX10_value 40 = .ok (.iconst 0, 1) := by decide +kernel
theorem dX10_value_41 : decode cX10_value 41 = .ok (.invokevirtual 141, 3) := by decide +kernel
theorem dX10_value_44 : decode cX10_value 44 = .ok (.pop, 1) := by decide +kernel
theorem dX10_value_45 : decode cX10_value 45 = .ok (.aload_n 0, 1) := by decide +kernel
theorem dX10_value_46 : decode cX10_value 46 = .ok (.aload_n 3, 1) := by decide +kernel
theorem dX10_value_47 : decode cX10_value 47 = .ok (.getfield 145, 3) := by decide +kernel
theorem dX10_value_50 : decode cX10_value 50 = .ok (.iload_n 2, 1) := by decide +kernel
theorem dX10_value_51 : decode cX10_value 51 = .ok (.iaload, 1) := by decide +kernel
theorem dX10_value_52 : decode cX10_value 52 = .ok (.invokevirtual 148, 3) := by decide +kernel
theorem dX10_value_55 : decode cX10_value 55 = .ok (.ireturn, 1) := by decide +kernel
theorem dX10_call_0 : decode cX10_call 0 = .ok (.aload_n 0, 1) := by decide +kernel
theorem dX10_call_1 : decode cX10_call 1 = .ok (.getfield 10, 3) := by decide +kernel
theorem dX10_call_4 : decode cX10_call 4 = .ok (.iload_n 1, 1) := by decide +kernel
theorem dX10_call_5 : decode cX10_call 5 = .ok (.invokevirtual 108, 3) := by decide +kernel
theorem dX10_call_8 : decode cX10_call 8 = .ok (.astore 4, 2) := by decide +kernel
theorem dX10_call_10 : decode cX10_call 10 = .ok (.aload 4, 2) := by decide +kernel
theorem dX10_call_12 : decode cX10_call 12 = .ok (.ifnull 21, 3) := by decide +kernel
theorem dX10_call_15 : decode cX10_call 15 = .ok (.aload 4, 2) := by decide +kernel
theorem dX10_call_17 : decode cX10_call 17 = .ok (.iload_n 2, 1) := by decide +kernel
theorem dX10_call_18 : decode cX10_call 18 = .ok (.invokevirtual 130, 3) := by decide +kernel
theorem dX10_call_21 : decode cX10_call 21 = .ok (.ifCond .eq 12, 3) := by decide +kernel
theorem dX10_call_24 : decode cX10_call 24 = .ok (.aload 4, 2) := by decide +kernel
theorem dX10_call_26 : decode cX10_call 26 = .ok (.iload_n 3, 1) := by decide +kernel
theorem dX10_call_27 : decode cX10_call 27 = .ok (.invokevirtual 152, 3) := by decide +kernel
theorem dX10_call_30 : decode cX10_call 30 = .ok (.ifCond .ne 6, 3) := by decide +kernel
theorem dX10_call_33 : decode cX10_call 33 = .ok (.ldc 112, 2) := by decide +kernel
theorem dX10_call_35 : decode cX10_call 35 = .ok (.ireturn, 1) := by decide +kernel
theorem dX10_call_36 : decode cX10_call 36 = .ok (.aload_n 0, 1) := by decide +kernel
theorem dX10_call_37 : decode cX10_call 37 = .ok (.getfield 50, 3) := by decide +kernel
theorem dX10_call_40 : decode cX10_call 40 = .ok (.aload_n 0, 1) := by decide +kernel
theorem dX10_call_41 : decode cX10_call 41 = .ok (.getfield 10, 3) := by decide +kernel
theorem dX10_call_44 : decode cX10_call 44 = .ok (.invokevirtual 138, 3) := by decide +kernel
theorem dX10_call_47 : decode cX10_call 47 = .ok (.iconst 0, 1) := by decide +kernel
theorem dX10_call_48 : decode cX10_call 48 = .ok (.istore 5, 2) := by decide +kernel
theorem dX10_call_50 : decode cX10_call 50 = .ok (.aload_n 0, 1) := by decide +kernel
theorem dX10_call_51 : decode cX10_call 51 = .ok (.getfield 50, 3) := by decide +kernel
theorem dX10_call_54 : decode cX10_call 54 = .ok (.iload_n 1, 1) := by decide +kernel
theorem dX10_call_55 : decode cX10_call 55 = .ok (.iconst 0, 1) := by decide +kernel
theorem dX10_call_56 : decode cX10_call 56 = .ok (.invokevirtual 141, 3) := by decide +kernel
theorem dX10_call_59 : decode cX10_call 59 = .ok (.ifCond .eq 23, 3) := by decide +kernel
theorem dX10_call_62 : decode cX10_call 62 = .ok (.aload_n 0, 1) := by decide +kernel
theorem dX10_call_63 : decode cX10_call 63 = .ok (.getfield 50, 3) := by decide +kernel
theorem dX10_call_66 : decode cX10_call 66 = .ok (.aload 4, 2) := by decide +kernel
theorem dX10_call_68 : decode cX10_call 68 = .ok (.iload_n 2, 1) := by decide +kernel
theorem dX10_call_69 : decode cX10_call 69 = .ok (.iload_n 3, 1) := by decide +kernel
theorem dX10_call_70 : decode cX10_call 70 = .ok (.invokevirtual 155, 3) := by decide +kernel
theorem dX10_call_73 : decode cX10_call 73 = .ok (.aload 4, 2) := by decide +kernel
theorem dX10_call_75 : decode cX10_call 75 = .ok (.iload_n 2, 1) := by decide +kernel
theorem dX10_call_76 : decode cX10_call 76 = .ok (.iconst 0, 1) := by decide +kernel
theorem dX10_call_77 : decode cX10_call 77 = .ok (.invokevirtual 159, 3) := by decide +kernel
theorem dX10_call_80 : decode cX10_call 80 = .ok (.istore 5, 2) := by decide +kernel
theorem dX10_call_82 : decode cX10_call 82 = .ok (.aload_n 0, 1) := by decide +kernel
theorem dX10_call_83 : decode cX10_call 83 = .ok (.iload 5, 2) := by decide +kernel
theorem dX10_call_85 : decode cX10_call 85 = .ok (.invokevirtual 148, 3) := by decide +kernel
theorem dX10_call_88 : decode cX10_call 88 = .ok (.ireturn, 1) := by decide +kernel
theorem dX10_field_0 : decode cX10_field 0 = .ok (.aload_n 0, 1) := by decide +kernel
theorem dX10_field_1 : decode cX10_field 1 = .ok (.getfield 10, 3) := by decide +kernel
theorem dX10_field_4 : decode cX10_field 4 = .ok (.iload_n 1, 1) := by decide +kernel
theorem dX10_field_5 : decode cX10_field 5 = .ok (.invokevirtual 108, 3) := by decide +kernel
theorem dX10_field_8 : decode cX10_field 8 = .ok (.astore_n 3, 1) := by decide +kernel
theorem dX10_field_9 : decode cX10_field 9 = .ok (.aload_n 3, 1) := by decide +kernel
theorem dX10_field_10 : decode cX10_field 10 = .ok (.ifnull 11, 3) := by decide +kernel
theorem dX10_field_13 : decode cX10_field 13 = .ok (.aload_n 3, 1) := by decide +kernel
theorem dX10_field_14 : decode cX10_field 14 = .ok (.iload_n 2, 1) := by decide +kernel
theorem dX10_field_15 : decode cX10_field 15 = .ok (.invokevirtual 163, 3) := by decide +kernel
theorem dX10_field_18 : decode cX10_field 18 = .ok (.ifCond .ne 6, 3) := by decide +kernel
theorem dX10_field_21 : decode cX10_field 21 = .ok (.ldc 112, 2) := by decide +kernel
theorem dX10_field_23 : decode cX10_field 23 = .ok (.ireturn, 1) := by decide +kernel
theorem dX10_field_24 : decode cX10_field 24 = .ok (.aload_n 0, 1) := by decide +kernel
theorem dX10_field_25 : decode cX10_field 25 = .ok (.getfield 50, 3) := by decide +kernel
theorem dX10_field_28 : decode cX10_field 28 = .ok (.aload_n 0, 1) := by decide +kernel
theorem dX10_field_29 : decode cX10_field 29 = .ok (.getfield 10, 3) := by decide +kernel
theorem dX10_field_32 : decode cX10_field 32 = .ok (.invokevirtual 138, 3) := by decide +kernel
theorem dX10_field_35 : decode cX10_field 35 = .ok (.aload_n 3, 1) := by decide +kernel
theorem dX10_field_36 : decode cX10_field 36 = .ok (.iload_n 2, 1) := by decide +kernel
theorem dX10_field_37 : decode cX10_field 37 = .ok (.invokevirtual 166, 3) := by decide +kernel
theorem dX10_field_40 : decode cX10_field 40 = .ok (.ifCond .eq 13, 3) := by decide +kernel
theorem dX10_field_43 : decode cX10_field 43 = .ok (.aload_n 0, 1) := by decide +kernel
theorem dX10_field_44 : decode cX10_field 44 = .ok (.getfield 50, 3) := by decide +kernel
theorem dX10_field_47 : decode cX10_field 47 = .ok (.iload_n 1, 1) := by decide +kernel
theorem dX10_field_48 : decode cX10_field 48 = .ok (.iconst 0, 1) := by decide +kernel
theorem dX10_field_49 : decode cX10_field 49 = .ok (.invokevirtual 141, 3) := by decide +kernel
theorem dX10_field_52 : decode cX10_field 52 = .ok (.pop, 1) := by decide +kernel
theorem dX10_field_53 : decode cX10_field 53 = .ok (.aload_n 0, 1) := by decide +kernel
theorem dX10_field_54 : decode cX10_field 54 = .ok (.aload_n 3, 1) := by decide +kernel
theorem dX10_field_55 : decode cX10_field 55 = .ok (.getfield 169, 3) := by decide +kernel
theorem dX10_field_58 : decode cX10_field 58 = .ok (.iload_n 2, 1) := by decide +kernel
theorem dX10_field_59 : decode cX10_field 59 = .ok (.iaload, 1) := by decide +kernel
theorem dX10_field_60 : decode cX10_field 60 = .ok (.invokevirtual 148, 3) := by decide +kernel
theorem dX10_field_63 : decode cX10_field 63 = .ok (.ireturn, 1) := by decide +kernel
theorem dX10_compare_0 : decode cX10_compare 0 = .ok (.aload_n 0, 1) := by decide +kernel
theorem dX10_compare_1 : decode cX10_compare 1 = .ok (.getfield 10, 3) := by decide +kernel
theorem dX10_compare_4 : decode cX10_compare 4 = .ok (.iload_n 1, 1) := by decide +kernel
theorem dX10_compare_5 : decode cX10_compare 5 = .ok (.invokevirtual 108, 3) := by decide +kernel
theorem dX10_compare_8 : decode cX10_compare 8 = .ok (.astore 5, 2) := by decide +kernel
theorem dX10_compare_10 : decode cX10_compare 10 = .ok (.aload_n 0, 1) := by decide +kernel
theorem dX10_compare_11 : decode cX10_compare 11 = .ok (.getfield 10, 3) := by decide +kernel
theorem dX10_compare_14 : decode cX10_compare 14 = .ok (.iload_n 3, 1) := by decide +kernel
theorem dX10_compare_15 : decode cX10_compare 15 = .ok (.invokevirtual 108, 3) := by decide +kernel
theorem dX10_compare_18 : decode cX10_compare 18 = .ok (.astore 6, 2) := by decide +kernel
theorem dX10_compare_20 : decode cX10_compare 20 = .ok (.aload 5, 2) := by decide +kernel
theorem dX10_compare_22 : decode cX10_compare 22 = .ok (.ifnull 27, 3) := by decide +kernel
theorem dX10_compare_25 : decode cX10_compare 25 = .ok (.aload 6, 2) := by decide +kernel
theorem dX10_compare_27 : decode cX10_compare 27 = .ok (.ifnull 22, 3) := by decide +kernel
theorem dX10_compare_30 : decode cX10_compare 30 = .ok (.aload 5, 2) := by decide +kernel
theorem dX10_compare_32 : decode cX10_compare 32 = .ok (.iload_n 2, 1) := by decide +kernel
theorem dX10_compare_33 : decode cX10_compare 33 = .ok (.invokevirtual 130, 3) := by decide +kernel
theorem dX10_compare_36 : decode cX10_compare 36 = .ok (.ifCond .eq 13, 3) := by decide +kernel
theorem dX10_compare_39 : decode cX10_compare 39 = .ok (.aload 6, 2) := by decide +kernel
theorem dX10_compare_41 : decode cX10_compare 41 = .ok (.iload 4, 2) := by decide +kernel
theorem dX10_compare_43 : decode cX10_compare 43 = .ok (.invokevirtual 130, 3) := by decide +kernel
theorem dX10_compare_46 : decode cX10_compare 46 = .ok (.ifCond .ne 6, 3) := by decide +kernel
theorem dX10_compare_49 : decode cX10_compare 49 = .ok (.ldc 112, 2) := by decide +kernel
theorem dX10_compare_51 : decode cX10_compare 51 = .ok (.ireturn, 1) := by decide +kernel
theorem dX10_compare_52 : decode cX10_compare 52 = .ok (.aload_n 0, 1) := by decide +kernel
theorem dX10_compare_53 : decode cX10_compare 53 = .ok (.getfield 50, 3) := by decide +kernel
theorem dX10_compare_56 : decode cX10_compare 56 = .ok (.aload_n 0, 1) := by decide +kernel
theorem dX10_compare_57 : decode cX10_compare 57 = .ok (.getfield 10, 3) := by decide +kernel
theorem dX10_compare_60 : decode cX10_compare 60 = .ok (.invokevirtual 138, 3) := by decide +kernel
theorem dX10_compare_63 : decode cX10_compare 63 = .ok (.aload_n 0, 1) := by decide +kernel
theorem dX10_compare_64 : decode cX10_compare 64 = .ok (.getfield 50, 3) := by decide +kernel
theorem dX10_compare_67 : decode cX10_compare 67 = .ok (.iload_n 1, 1) := by decide +kernel
theorem dX10_compare_68 : decode cX10_compare 68 = .ok (.iconst 0, 1) := by decide +kernel
theorem dX10_compare_69 : decode cX10_compare 69 = .ok (.invokevirtual 141, 3) := by decide +kernel
theorem dX10_compare_72 : decode cX10_compare 72 = .ok (.ifCond .eq 29, 3) := by decide +kernel
theorem dX10_compare_75 : decode cX10_compare 75 = .ok (.aload_n 0, 1) := by decide +kernel
theorem dX10_compare_76 : decode cX10_compare 76 = .ok (.getfield 50, 3) := by decide +kernel
theorem dX10_compare_79 : decode cX10_compare 79 = .ok (.iload_n 3, 1) := by decide +kernel
theorem dX10_compare_80 : decode cX10_compare 80 = .ok (.iconst 0, 1) := by decide +kernel
theorem dX10_compare_81 : decode cX10_compare 81 = .ok (.invokevirtual 141, 3) := by decide +kernel
theorem dX10_compare_84 : decode cX10_compare 84 = .ok (.ifCond .eq 17, 3) := by decide +kernel
theorem dX10_compare_87 : decode cX10_compare 87 = .ok (.iload_n 1, 1) := by decide +kernel
theorem dX10_compare_88 : decode cX10_compare 88 = .ok (.iload_n 3, 1) := by decide +kernel
theorem dX10_compare_89 : decode cX10_compare 89 = .ok (.if_icmp .eq 12, 3) := by decide +kernel
theorem dX10_compare_92 : decode cX10_compare 92 = .ok (.aload_n 0, 1) := by decide +kernel
theorem dX10_compare_93 : decode cX10_compare 93 = .ok (.getfield 50, 3) := by decide +kernel
theorem dX10_compare_96 : decode cX10_compare 96 = .ok (.iconst 5, 1) := by decide +kernel
theorem dX10_compare_97 : decode cX10_compare 97 = .ok (.invokevirtual 172, 3) := by decide +kernel
theorem dX10_compare_100 : decode cX10_compare 100 = .ok (.pop, 1) := by decide +kernel
theorem dX10_compare_101 : decode cX10_compare 101 = .ok (.aload_n 0, 1) := by decide +kernel
theorem dX10_compare_102 : decode cX10_compare 102 = .ok (.iload_n 2, 1) := by decide +kernel
theorem dX10_compare_103 : decode cX10_compare 103 = .ok (.iload 4, 2) := by decide +kernel
theorem dX10_compare_105 : decode cX10_compare 105 = .ok (.if_icmp .ge 7, 3) := by decide +kernel
theorem dX10_compare_108 : decode cX10_compare 108 = .ok (.iconst 1, 1) := by decide +kernel
theorem dX10_compare_109 : decode cX10_compare 109 = .ok (.goto 14, 3) := by decide +kernel
theorem dX10_compare_112 : decode cX10_compare 112 = .ok (.iload_n 2, 1) := by decide +kernel
theorem dX10_compare_113 : decode cX10_compare 113 = .ok (.iload 4, 2) := by decide +kernel
theorem dX10_compare_115 : decode cX10_compare 115 = .ok (.if_icmp .ne 7, 3) := by decide +kernel
theorem dX10_compare_118 : decode cX10_compare 118 = .ok (.iconst 2, 1) := by decide +kernel
theorem dX10_compare_119 : decode cX10_compare 119 = .ok (.goto 4, 3) := by decide +kernel
theorem dX10_compare_122 : decode cX10_compare 122 = .ok (.iconst 3, 1) := by decide +kernel
theorem dX10_compare_123 : decode cX10_compare 123 = .ok (.invokevirtual 148, 3) := by decide +kernel
theorem dX10_compare_126 : decode cX10_compare 126 = .ok (.ireturn, 1) := by decide +kernel
theorem dX10_values_0 : decode cX10_values 0 = .ok (.aload_n 0, 1) := by decide +kernel
theorem dX10_values_1 : decode cX10_values 1 = .ok (.getfield 10, 3) := by decide +kernel
theorem dX10_values_4 : decode cX10_values 4 = .ok (.iload_n 1, 1) := by decide +kernel
theorem dX10_values_5 : decode cX10_values 5 = .ok (.invokevirtual 108, 3) := by decide +kernel
theorem dX10_values_8 : decode cX10_values 8 = .ok (.astore_n 2, 1) := by decide +kernel
theorem dX10_values_9 : decode cX10_values 9 = .ok (.aload_n 2, 1) := by decide +kernel
theorem dX10_values_10 : decode cX10_values 10 = .ok (.ifnonnull 6, 3) := by decide +kernel
theorem dX10_values_13 : decode cX10_values 13 = .ok (.ldc 112, 2) := by decide +kernel
theorem dX10_values_15 : decode cX10_values 15 = .ok (.ireturn, 1) := by decide +kernel
theorem dX10_values_16 : decode cX10_values 16 = .ok (.aload_n 0, 1) := by decide +kernel
theorem dX10_values_17 : decode cX10_values 17 = .ok (.getfield 50, 3) := by decide +kernel
theorem dX10_values_20 : decode cX10_values 20 = .ok (.aload_n 0, 1) := by decide +kernel
theorem dX10_values_21 : decode cX10_values 21 = .ok (.getfield 10, 3) := by decide +kernel
theorem dX10_values_24 : decode cX10_values 24 = .ok (.invokevirtual 138, 3) := by decide +kernel
theorem dX10_values_27 : decode cX10_values 27 = .ok (.aload_n 0, 1) := by decide +kernel
theorem dX10_values_28 : decode cX10_values 28 = .ok (.getfield 50, 3) := by decide +kernel
theorem dX10_values_31 : decode cX10_values 31 = .ok (.iload_n 1, 1) := by decide +kernel
theorem dX10_values_32 : decode cX10_values 32 = .ok (.iconst 0, 1) := by decide +kernel
theorem dX10_values_33 : decode cX10_values 33 = .ok (.invokevirtual 141, 3) := by decide +kernel
theorem dX10_values_36 : decode cX10_values 36 = .ok (.ifCond .eq 12, 3) := by decide +kernel
theorem dX10_values_39 : decode cX10_values 39 = .ok (.aload_n 0, 1) := by decide +kernel
theorem dX10_values_40 : decode cX10_values 40 = .ok (.iload_n 1, 1) := by decide +kernel
theorem dX10_values_41 : decode cX10_values 41 = .ok (.aload_n 2, 1) := by decide +kernel
theorem dX10_values_42 : decode cX10_values 42 = .ok (.getfield 113, 3) := by decide +kernel
theorem dX10_values_45 : decode cX10_values 45 = .ok (.invokevirtual 175, 3) := by decide +kernel
theorem dX10_values_48 : decode cX10_values 48 = .ok (.aload_n 0, 1) := by decide +kernel
theorem dX10_values_49 : decode cX10_values 49 = .ok (.aload_n 2, 1) := by decide +kernel
theorem dX10_values_50 : decode cX10_values 50 = .ok (.getfield 113, 3) := by decide +kernel
theorem dX10_values_53 : decode cX10_values 53 = .ok (.invokevirtual 148, 3) := by decide +kernel
theorem dX10_values_56 : decode cX10_values 56 = .ok (.ireturn, 1) := by decide +kernel
theorem dX10_takeInHand_0 : decode cX10_takeInHand 0 = .ok (.aload_n 0, 1) := by decide +kernel
theorem dX10_takeInHand_1 : decode cX10_takeInHand 1 = .ok (.iload_n 1, 1) := by decide +kernel
theorem dX10_takeInHand_2 : decode cX10_takeInHand 2 = .ok (.putfield 179, 3) := by decide +kernel
theorem dX10_takeInHand_5 : decode cX10_takeInHand 5 = .ok (.aload_n 0, 1) := by decide +kernel
theorem dX10_takeInHand_6 : decode cX10_takeInHand 6 = .ok (.iload_n 2, 1) := by decide +kernel
theorem dX10_takeInHand_7 : decode cX10_takeInHand 7 = .ok (.aload_n 0, 1) := by decide +kernel
theorem dX10_takeInHand_8 : decode cX10_takeInHand 8 = .ok (.getfield 54, 3) := by decide +kernel
theorem dX10_takeInHand_11 : decode cX10_takeInHand 11 = .ok (.arraylength, 1) := by decide +kernel
theorem dX10_takeInHand_12 : decode cX10_takeInHand 12 = .ok (.invokestatic 182, 3) := by decide +kernel
theorem dX10_takeInHand_15 : decode cX10_takeInHand 15 = .ok (.putfield 98, 3) := by decide +kernel
theorem dX10_takeInHand_18 : decode cX10_takeInHand 18 = .ok (.iconst 0, 1) := by decide +kernel
theorem dX10_takeInHand_19 : decode cX10_takeInHand 19 = .ok (.istore_n 3, 1) := by decide +kernel
theorem dX10_takeInHand_20 : decode cX10_takeInHand 20 = .ok (.iload_n 3, 1) := by decide +kernel
theorem dX10_takeInHand_21 : decode cX10_takeInHand 21 = .ok (.aload_n 0, 1) := by decide +kernel
theorem dX10_takeInHand_22 : decode cX10_takeInHand 22 = .ok (.getfield 98, 3) := by decide +kernel
theorem dX10_takeInHand_25 : decode cX10_takeInHand 25 = .ok (.if_icmp .ge 16, 3) := by decide +kernel
theorem dX10_takeInHand_28 : decode cX10_takeInHand 28 = .ok (.aload_n 0, 1) := by decide +kernel
theorem dX10_takeInHand_29 : decode cX10_takeInHand 29 = .ok (.getfield 54, 3) := by decide +kernel
theorem dX10_takeInHand_32 : decode cX10_takeInHand 32 = .ok (.iload_n 3, 1) := by decide +kernel
theorem dX10_takeInHand_33 : decode cX10_takeInHand 33 = .ok (.iload_n 3, 1) := by decide +kernel
theorem dX10_takeInHand_34 : decode cX10_takeInHand 34 = .ok (.iastore, 1) := by decide +kernel
theorem dX10_takeInHand_35 : decode cX10_takeInHand 35 = .ok (.iinc 3 1, 3) := by decide +kernel
theorem dX10_takeInHand_38 : decode cX10_takeInHand 38 = .ok (.goto (-18), 3) := by decide +kernel
theorem dX10_takeInHand_41 : decode cX10_takeInHand 41 = .ok (.return_, 1) := by decide +kernel
theorem dX10_swap_0 : decode cX10_swap 0 = .ok (.aload_n 0, 1) := by decide +kernel
theorem dX10_swap_1 : decode cX10_swap 1 = .ok (.iload_n 1, 1) := by decide +kernel
theorem dX10_swap_2 : decode cX10_swap 2 = .ok (.invokevirtual 187, 3) := by decide +kernel
theorem dX10_swap_5 : decode cX10_swap 5 = .ok (.ifCond .eq 11, 3) := by decide +kernel
theorem dX10_swap_8 : decode cX10_swap 8 = .ok (.aload_n 0, 1) := by decide +kernel
theorem dX10_swap_9 : decode cX10_swap 9 = .ok (.iload_n 2, 1) := by decide +kernel
theorem dX10_swap_10 : decode cX10_swap 10 = .ok (.invokevirtual 187, 3) := by decide +kernel
theorem dX10_swap_13 : decode cX10_swap 13 = .ok (.ifCond .ne 6, 3) := by decide +kernel
theorem dX10_swap_16 : decode cX10_swap 16 = .ok (.ldc 71, 2) := by decide +kernel
theorem dX10_swap_18 : decode cX10_swap 18 = .ok (.ireturn, 1) := by decide +kernel
theorem dX10_swap_19 : decode cX10_swap 19 = .ok (.aload_n 0, 1) := by decide +kernel
theorem dX10_swap_20 : decode cX10_swap 20 = .ok (.getfield 54, 3) := by decide +kernel
theorem dX10_swap_23 : decode cX10_swap 23 = .ok (.iload_n 1, 1) := by decide +kernel
theorem dX10_swap_24 : decode cX10_swap 24 = .ok (.iaload, 1) := by decide +kernel
theorem dX10_swap_25 : decode cX10_swap 25 = .ok (.istore_n 3, 1) := by decide +kernel
theorem dX10_swap_26 : decode cX10_swap 26 = .ok (.aload_n 0, 1) := by decide +kernel
theorem dX10_swap_27 : decode cX10_swap 27 = .ok (.getfield 54, 3) := by decide +kernel
theorem dX10_swap_30 : decode cX10_swap 30 = .ok (.iload_n 1, 1) := by decide +kernel
theorem dX10_swap_31 : decode cX10_swap 31 = .ok (.aload_n 0, 1) := by decide +kernel
theorem dX10_swap_32 : decode cX10_swap 32 = .ok (.getfield 54, 3) := by decide +kernel
theorem dX10_swap_35 : decode cX10_swap 35 = .ok (.iload_n 2, 1) := by decide +kernel
theorem dX10_swap_36 : decode cX10_swap 36 = .ok (.iaload, 1) := by decide +kernel
theorem dX10_swap_37 : decode cX10_swap 37 = .ok (.iastore, 1) := by decide +kernel
theorem dX10_swap_38 : decode cX10_swap 38 = .ok (.aload_n 0, 1) := by decide +kernel
theorem dX10_swap_39 : decode cX10_swap 39 = .ok (.getfield 54, 3) := by decide +kernel
theorem dX10_swap_42 : decode cX10_swap 42 = .ok (.iload_n 2, 1) := by decide +kernel
theorem dX10_swap_43 : decode cX10_swap 43 = .ok (.iload_n 3, 1) := by decide +kernel
theorem dX10_swap_44 : decode cX10_swap 44 = .ok (.iastore, 1) := by decide +kernel
theorem dX10_swap_45 : decode cX10_swap 45 = .ok (.iconst 1, 1) := by decide +kernel
theorem dX10_swap_46 : decode cX10_swap 46 = .ok (.ireturn, 1) := by decide +kernel
theorem dX10_hand_0 : decode cX10_hand 0 = .ok (.aload_n 0, 1) := by decide +kernel
theorem dX10_hand_1 : decode cX10_hand 1 = .ok (.getfield 50, 3) := by decide +kernel
theorem dX10_hand_4 : decode cX10_hand 4 = .ok (.aload_n 0, 1) := by decide +kernel
theorem dX10_hand_5 : decode cX10_hand 5 = .ok (.getfield 10, 3) := by decide +kernel
theorem dX10_hand_8 : decode cX10_hand 8 = .ok (.invokevirtual 138, 3) := by decide +kernel
theorem dX10_hand_11 : decode cX10_hand 11 = .ok (.aload_n 0, 1) := by decide +kernel
theorem dX10_hand_12 : decode cX10_hand 12 = .ok (.getfield 10, 3) := by decide +kernel
theorem dX10_hand_15 : decode cX10_hand 15 = .ok (.aload_n 0, 1) := by decide +kernel
theorem dX10_hand_16 : decode cX10_hand 16 = .ok (.getfield 179, 3) := by decide +kernel
theorem dX10_hand_19 : decode cX10_hand 19 = .ok (.invokevirtual 108, 3) := by decide +kernel
theorem dX10_hand_22 : decode cX10_hand 22 = .ok (.astore_n 2, 1) := by decide +kernel
theorem dX10_hand_23 : decode cX10_hand 23 = .ok (.aload_n 2, 1) := by decide +kernel
theorem dX10_hand_24 : decode cX10_hand 24 = .ok (.ifnull 24, 3) := by decide +kernel
theorem dX10_hand_27 : decode cX10_hand 27 = .ok (.aload_n 0, 1) := by decide +kernel
theorem dX10_hand_28 : decode cX10_hand 28 = .ok (.iload_n 1, 1) := by decide +kernel
theorem dX10_hand_29 : decode cX10_hand 29 = .ok (.invokevirtual 187, 3) := by decide +kernel
theorem dX10_hand_32 : decode cX10_hand 32 = .ok (.ifCond .eq 16, 3) := by decide +kernel
theorem dX10_hand_35 : decode cX10_hand 35 = .ok (.aload_n 2, 1) := by decide +kernel
theorem dX10_hand_36 : decode cX10_hand 36 = .ok (.aload_n 0, 1) := by decide +kernel
theorem dX10_hand_37 : decode cX10_hand 37 = .ok (.getfield 54, 3) := by decide +kernel
theorem dX10_hand_40 : decode cX10_hand 40 = .ok (.iload_n 1, 1) := by decide +kernel
theorem dX10_hand_41 : decode cX10_hand 41 = .ok (.iaload, 1) := by decide +kernel
theorem dX10_hand_42 : decode cX10_hand 42 = .ok (.invokevirtual 130, 3) := by decide +kernel
theorem dX10_hand_45 : decode cX10_hand 45 = .ok (.ifCond .ne 18, 3) := by decide +kernel
theorem dX10_hand_48 : decode cX10_hand 48 = .ok (.aload_n 0, 1) := by decide +kernel
theorem dX10_hand_49 : decode cX10_hand 49 = .ok (.getfield 50, 3) := by decide +kernel
theorem dX10_hand_52 : decode cX10_hand 52 = .ok (.iconst 4, 1) := by decide +kernel
theorem dX10_hand_53 : decode cX10_hand 53 = .ok (.invokevirtual 172, 3) := by decide +kernel
theorem dX10_hand_56 : decode cX10_hand 56 = .ok (.pop, 1) := by decide +kernel
theorem dX10_hand_57 : decode cX10_hand 57 = .ok (.aload_n 0, 1) := by decide +kernel
theorem dX10_hand_58 : decode cX10_hand 58 = .ok (.iconst 0, 1) := by decide +kernel
theorem dX10_hand_59 : decode cX10_hand 59 = .ok (.invokevirtual 148, 3) := by decide +kernel
theorem dX10_hand_62 : decode cX10_hand 62 = .ok (.ireturn, 1) := by decide +kernel
theorem dX10_hand_63 : decode cX10_hand 63 = .ok (.aload_n 0, 1) := by decide +kernel
theorem dX10_hand_64 : decode cX10_hand 64 = .ok (.aload_n 2, 1) := by decide +kernel
theorem dX10_hand_65 : decode cX10_hand 65 = .ok (.getfield 145, 3) := by decide +kernel
theorem dX10_hand_68 : decode cX10_hand 68 = .ok (.aload_n 0, 1) := by decide +kernel
theorem dX10_hand_69 : decode cX10_hand 69 = .ok (.getfield 54, 3) := by decide +kernel
theorem dX10_hand_72 : decode cX10_hand 72 = .ok (.iload_n 1, 1) := by decide +kernel
theorem dX10_hand_73 : decode cX10_hand 73 = .ok (.iaload, 1) := by decide +kernel
theorem dX10_hand_74 : decode cX10_hand 74 = .ok (.iaload, 1) := by decide +kernel
theorem dX10_hand_75 : decode cX10_hand 75 = .ok (.invokevirtual 148, 3) := by decide +kernel
theorem dX10_hand_78 : decode cX10_hand 78 = .ok (.ireturn, 1) := by decide +kernel
theorem dX10_isInHand_0 : decode cX10_isInHand 0 = .ok (.iload_n 1, 1) := by decide +kernel
theorem dX10_isInHand_1 : decode cX10_isInHand 1 = .ok (.ifCond .lt 24, 3) := by decide +kernel
theorem dX10_isInHand_4 : decode cX10_isInHand 4 = .ok (.iload_n 1, 1) := by decide +kernel
theorem dX10_isInHand_5 : decode cX10_isInHand 5 = .ok (.aload_n 0, 1) := by decide +kernel
theorem dX10_isInHand_6 : decode cX10_isInHand 6 = .ok (.getfield 98, 3) := by decide +kernel
theorem dX10_isInHand_9 : decode cX10_isInHand 9 = .ok (.if_icmp .ge 16, 3) := by decide +kernel
theorem dX10_isInHand_12 : decode cX10_isInHand 12 = .ok (.iload_n 1, 1) := by decide +kernel
theorem dX10_isInHand_13 : decode cX10_isInHand 13 = .ok (.aload_n 0, 1) := by decide +kernel
theorem dX10_isInHand_14 : decode cX10_isInHand 14 = .ok (.getfield 54, 3) := by decide +kernel
theorem dX10_isInHand_17 : decode cX10_isInHand 17 = .ok (.arraylength, 1) := by decide +kernel
theorem dX10_isInHand_18 : decode cX10_isInHand 18 = .ok (.if_icmp .ge 7, 3) := by decide +kernel
theorem dX10_isInHand_21 : decode cX10_isInHand 21 = .ok (.iconst 1, 1) := by decide +kernel
theorem dX10_isInHand_22 : decode cX10_isInHand 22 = .ok (.goto 4, 3) := by decide +kernel
theorem dX10_isInHand_25 : decode cX10_isInHand 25 = .ok (.iconst 0, 1) := by decide +kernel
theorem dX10_isInHand_26 : decode cX10_isInHand 26 = .ok (.ireturn, 1) := by decide +kernel
theorem dX10_named_0 : decode cX10_named 0 = .ok (.aload_n 0, 1) := by decide +kernel
theorem dX10_named_1 : decode cX10_named 1 = .ok (.getfield 10, 3) := by decide +kernel
theorem dX10_named_4 : decode cX10_named 4 = .ok (.iload_n 1, 1) := by decide +kernel
theorem dX10_named_5 : decode cX10_named 5 = .ok (.invokevirtual 108, 3) := by decide +kernel
theorem dX10_named_8 : decode cX10_named 8 = .ok (.astore_n 2, 1) := by decide +kernel
theorem dX10_named_9 : decode cX10_named 9 = .ok (.aload_n 2, 1) := by decide +kernel
theorem dX10_named_10 : decode cX10_named 10 = .ok (.ifnonnull 6, 3) := by decide +kernel
theorem dX10_named_13 : decode cX10_named 13 = .ok (.ldc 112, 2) := by decide +kernel
theorem dX10_named_15 : decode cX10_named 15 = .ok (.ireturn, 1) := by decide +kernel
theorem dX10_named_16 : decode cX10_named 16 = .ok (.aload_n 0, 1) := by decide +kernel
theorem dX10_named_17 : decode cX10_named 17 = .ok (.getfield 50, 3) := by decide +kernel
theorem dX10_named_20 : decode cX10_named 20 = .ok (.aload_n 0, 1) := by decide +kernel
theorem dX10_named_21 : decode cX10_named 21 = .ok (.getfield 10, 3) := by decide +kernel
theorem dX10_named_24 : decode cX10_named 24 = .ok (.invokevirtual 138, 3) := by decide +kernel
theorem dX10_named_27 : decode cX10_named 27 = .ok (.iconst 0, 1) := by decide +kernel
theorem dX10_named_28 : decode cX10_named 28 = .ok (.istore_n 3, 1) := by decide +kernel
theorem dX10_named_29 : decode cX10_named 29 = .ok (.aload_n 0, 1) := by decide +kernel
theorem dX10_named_30 : decode cX10_named 30 = .ok (.getfield 50, 3) := by decide +kernel
theorem dX10_named_33 : decode cX10_named 33 = .ok (.iload_n 1, 1) := by decide +kernel
theorem dX10_named_34 : decode cX10_named 34 = .ok (.iconst 0, 1) := by decide +kernel
theorem dX10_named_35 : decode cX10_named 35 = .ok (.invokevirtual 141, 3) := by decide +kernel
theorem dX10_named_38 : decode cX10_named 38 = .ok (.ifCond .eq 9, 3) := by decide +kernel
theorem dX10_named_41 : decode cX10_named 41 = .ok (.aload_n 0, 1) := by decide +kernel
theorem dX10_named_42 : decode cX10_named 42 = .ok (.aload_n 2, 1) := by decide +kernel
theorem dX10_named_43 : decode cX10_named 43 = .ok (.invokevirtual 190, 3) := by decide +kernel
theorem dX10_named_46 : decode cX10_named 46 = .ok (.istore_n 3, 1) := by decide +kernel
theorem dX10_named_47 : decode cX10_named 47 = .ok (.aload_n 0, 1) := by decide +kernel
theorem dX10_named_48 : decode cX10_named 48 = .ok (.getfield 22, 3) := by decide +kernel
theorem dX10_named_51 : decode cX10_named 51 = .ok (.iconst 0, 1) := by decide +kernel
theorem dX10_named_52 : decode cX10_named 52 = .ok (.putfield 62, 3) := by decide +kernel
theorem dX10_named_55 : decode cX10_named 55 = .ok (.aload_n 0, 1) := by decide +kernel
theorem dX10_named_56 : decode cX10_named 56 = .ok (.iload_n 3, 1) := by decide +kernel
theorem dX10_named_57 : decode cX10_named 57 = .ok (.invokevirtual 148, 3) := by decide +kernel
theorem dX10_named_60 : decode cX10_named 60 = .ok (.ireturn, 1) := by decide +kernel
theorem dX10_lookFor_0 : decode cX10_lookFor 0 = .ok (.aload_n 0, 1) := by decide +kernel
theorem dX10_lookFor_1 : decode cX10_lookFor 1 = .ok (.getfield 22, 3) := by decide +kernel
theorem dX10_lookFor_4 : decode cX10_lookFor 4 = .ok (.getfield 62, 3) := by decide +kernel
theorem dX10_lookFor_7 : decode cX10_lookFor 7 = .ok (.ifCond .ne 14, 3) := by decide +kernel
theorem dX10_lookFor_10 : decode cX10_lookFor 10 = .ok (.aload_n 0, 1) := by decide +kernel
theorem dX10_lookFor_11 : decode cX10_lookFor 11 = .ok (.getfield 50, 3) := by decide +kernel
theorem dX10_lookFor_14 : decode cX10_lookFor 14 = .ok (.iconst 1, 1) := by decide +kernel
theorem dX10_lookFor_15 : decode cX10_lookFor 15 = .ok (.invokevirtual 172, 3) := by decide +kernel
theorem dX10_lookFor_18 : decode cX10_lookFor 18 = .ok (.pop, 1) := by decide +kernel
theorem dX10_lookFor_19 : decode cX10_lookFor 19 = .ok (.iconst 0, 1) := by decide +kernel
theorem dX10_lookFor_20 : decode cX10_lookFor 20 = .ok (.ireturn, 1) := by decide +kernel
theorem dX10_lookFor_21 : decode cX10_lookFor 21 = .ok (.iconst 0, 1) := by decide +kernel
theorem dX10_lookFor_22 : decode cX10_lookFor 22 = .ok (.istore_n 2, 1) := by decide +kernel
theorem dX10_lookFor_23 : decode cX10_lookFor 23 = .ok (.iload_n 2, 1) := by decide +kernel
theorem dX10_lookFor_24 : decode cX10_lookFor 24 = .ok (.aload_n 1, 1) := by decide +kernel
theorem dX10_lookFor_25 : decode cX10_lookFor 25 = .ok (.getfield 113, 3) := by decide +kernel
theorem dX10_lookFor_28 : decode cX10_lookFor 28 = .ok (.if_icmp .ge 65, 3) := by decide +kernel
theorem dX10_lookFor_31 : decode cX10_lookFor 31 = .ok (.aload_n 1, 1) := by decide +kernel
theorem dX10_lookFor_32 : decode cX10_lookFor 32 = .ok (.getfield 194, 3) := by decide +kernel
theorem dX10_lookFor_35 : decode cX10_lookFor 35 = .ok (.iload_n 2, 1) := by decide +kernel
theorem dX10_lookFor_36 : decode cX10_lookFor 36 = .ok (.iaload, 1) := by decide +kernel
theorem dX10_lookFor_37 : decode cX10_lookFor 37 = .ok (.istore_n 3, 1) := by decide +kernel
theorem dX10_lookFor_38 : decode cX10_lookFor 38 = .ok (.aload_n 0, 1) := by decide +kernel
theorem dX10_lookFor_39 : decode cX10_lookFor 39 = .ok (.getfield 10, 3) := by decide +kernel
theorem dX10_lookFor_42 : decode cX10_lookFor 42 = .ok (.getfield 92, 3) := by decide +kernel
theorem dX10_lookFor_45 : decode cX10_lookFor 45 = .ok (.iload_n 3, 1) := by decide +kernel
theorem dX10_lookFor_46 : decode cX10_lookFor 46 = .ok (.invokevirtual 197, 3) := by decide +kernel
theorem dX10_lookFor_49 : decode cX10_lookFor 49 = .ok (.aload_n 0, 1) := by decide +kernel
theorem dX10_lookFor_50 : decode cX10_lookFor 50 = .ok (.getfield 22, 3) := by decide +kernel
theorem dX10_lookFor_53 : decode cX10_lookFor 53 = .ok (.getfield 62, 3) := by decide +kernel
theorem dX10_lookFor_56 : decode cX10_lookFor 56 = .ok (.if_icmp .ne 31, 3) := by decide +kernel
theorem dX10_lookFor_59 : decode cX10_lookFor 59 = .ok (.aload_n 0, 1) := by decide +kernel
theorem dX10_lookFor_60 : decode cX10_lookFor 60 = .ok (.getfield 22, 3) := by decide +kernel
theorem dX10_lookFor_63 : decode cX10_lookFor 63 = .ok (.iconst 0, 1) := by decide +kernel
theorem dX10_lookFor_64 : decode cX10_lookFor 64 = .ok (.aload_n 0, 1) := by decide +kernel
theorem dX10_lookFor_65 : decode cX10_lookFor 65 = .ok (.getfield 10, 3) := by decide +kernel
theorem dX10_lookFor_68 : decode cX10_lookFor 68 = .ok (.getfield 92, 3) := by decide +kernel
theorem dX10_lookFor_71 : decode cX10_lookFor 71 = .ok (.iload_n 3, 1) := by decide +kernel
theorem dX10_lookFor_72 : decode cX10_lookFor 72 = .ok (.aload_n 0, 1) := by decide +kernel
theorem dX10_lookFor_73 : decode cX10_lookFor 73 = .ok (.getfield 22, 3) := by decide +kernel
theorem dX10_lookFor_76 : decode cX10_lookFor 76 = .ok (.getfield 62, 3) := by decide +kernel
theorem dX10_lookFor_79 : decode cX10_lookFor 79 = .ok (.invokevirtual 200, 3) := by decide +kernel
theorem dX10_lookFor_82 : decode cX10_lookFor 82 = .ok (.ifCond .eq 5, 3) := by decide +kernel
theorem dX10_lookFor_85 : decode cX10_lookFor 85 = .ok (.iload_n 2, 1) := by decide +kernel
theorem dX10_lookFor_86 : decode cX10_lookFor 86 = .ok (.ireturn, 1) := by decide +kernel
theorem dX10_lookFor_87 : decode cX10_lookFor 87 = .ok (.iinc 2 1, 3) := by decide +kernel
theorem dX10_lookFor_90 : decode cX10_lookFor 90 = .ok (.goto (-67), 3) := by decide +kernel
theorem dX10_lookFor_93 : decode cX10_lookFor 93 = .ok (.aload_n 0, 1) := by decide +kernel
theorem dX10_lookFor_94 : decode cX10_lookFor 94 = .ok (.getfield 50, 3) := by decide +kernel
theorem dX10_lookFor_97 : decode cX10_lookFor 97 = .ok (.iconst 3, 1) := by decide +kernel
theorem dX10_lookFor_98 : decode cX10_lookFor 98 = .ok (.invokevirtual 172, 3) := by decide +kernel
theorem dX10_lookFor_101 : decode cX10_lookFor 101 = .ok (.pop, 1) := by decide +kernel
theorem dX10_lookFor_102 : decode cX10_lookFor 102 = .ok (.iconst 0, 1) := by decide +kernel
theorem dX10_lookFor_103 : decode cX10_lookFor 103 = .ok (.ireturn, 1) := by decide +kernel
theorem dX10_trace_0 : decode cX10_trace 0 = .ok (.iload_n 1, 1) := by decide +kernel
theorem dX10_trace_1 : decode cX10_trace 1 = .ok (.ifCond .lt 21, 3) := by decide +kernel
theorem dX10_trace_4 : decode cX10_trace 4 = .ok (.iload_n 1, 1) := by decide +kernel
theorem dX10_trace_5 : decode cX10_trace 5 = .ok (.aload_n 0, 1) := by decide +kernel
theorem dX10_trace_6 : decode cX10_trace 6 = .ok (.getfield 50, 3) := by decide +kernel
theorem dX10_trace_9 : decode cX10_trace 9 = .ok (.getfield 95, 3) := by decide +kernel
theorem dX10_trace_12 : decode cX10_trace 12 = .ok (.if_icmp .ge 10, 3) := by decide +kernel
theorem dX10_trace_15 : decode cX10_trace 15 = .ok (.iload_n 1, 1) := by decide +kernel
theorem dX10_trace_16 : decode cX10_trace 16 = .ok (.sipush 200, 3) := by decide +kernel
theorem dX10_trace_19 : decode cX10_trace 19 = .ok (.if_icmp .lt 8, 3) := by decide +kernel
theorem dX10_trace_22 : decode cX10_trace 22 = .ok (.ldc 101, 2) := by decide +kernel
theorem dX10_trace_24 : decode cX10_trace 24 = .ok (.goto 12, 3) := by decide +kernel
theorem dX10_trace_27 : decode cX10_trace 27 = .ok (.aload_n 0, 1) := by decide +kernel
theorem dX10_trace_28 : decode cX10_trace 28 = .ok (.getfield 50, 3) := by decide +kernel
theorem dX10_trace_31 : decode cX10_trace 31 = .ok (.getfield 204, 3) := by decide +kernel
theorem dX10_trace_34 : decode cX10_trace 34 = .ok (.iload_n 1, 1) := by decide +kernel
theorem dX10_trace_35 : decode cX10_trace 35 = .ok (.iaload, 1) := by decide +kernel
theorem dX10_trace_36 : decode cX10_trace 36 = .ok (.ireturn, 1) := by decide +kernel
theorem dX10_count_0 : decode cX10_count 0 = .ok (.iload_n 1, 1) := by decide +kernel
theorem dX10_count_1 : decode cX10_count 1 = .ok (.tableswitch 69 0 4 #[35, 43, 51, 56, 64], 35) := by decide +kernel
theorem dX10_count_36 : decode cX10_count 36 = .ok (.aload_n 0, 1) := by decide +kernel
theorem dX10_count_37 : decode cX10_count 37 = .ok (.getfield 10, 3) := by decide +kernel
theorem dX10_count_40 : decode cX10_count 40 = .ok (.getfield 89, 3) := by decide +kernel
theorem dX10_count_43 : decode cX10_count 43 = .ok (.ireturn, 1) := by decide +kernel
theorem dX10_count_44 : decode cX10_count 44 = .ok (.aload_n 0, 1) := by decide +kernel
theorem dX10_count_45 : decode cX10_count 45 = .ok (.getfield 50, 3) := by decide +kernel
theorem dX10_count_48 : decode cX10_count 48 = .ok (.getfield 95, 3) := by decide +kernel
theorem dX10_count_51 : decode cX10_count 51 = .ok (.ireturn, 1) := by decide +kernel
theorem dX10_count_52 : decode cX10_count 52 = .ok (.aload_n 0, 1) := by decide +kernel
theorem dX10_count_53 : decode cX10_count 53 = .ok (.getfield 98, 3) := by decide +kernel
theorem dX10_count_56 : decode cX10_count 56 = .ok (.ireturn, 1) := by decide +kernel
theorem dX10_count_57 : decode cX10_count 57 = .ok (.aload_n 0, 1) := by decide +kernel
theorem dX10_count_58 : decode cX10_count 58 = .ok (.getfield 22, 3) := by decide +kernel
theorem dX10_count_61 : decode cX10_count 61 = .ok (.getfield 62, 3) := by decide +kernel
theorem dX10_count_64 : decode cX10_count 64 = .ok (.ireturn, 1) := by decide +kernel
theorem dX10_count_65 : decode cX10_count 65 = .ok (.aload_n 0, 1) := by decide +kernel
theorem dX10_count_66 : decode cX10_count 66 = .ok (.getfield 207, 3) := by decide +kernel
theorem dX10_count_69 : decode cX10_count 69 = .ok (.ireturn, 1) := by decide +kernel
theorem dX10_count_70 : decode cX10_count 70 = .ok (.ldc 71, 2) := by decide +kernel
theorem dX10_count_72 : decode cX10_count 72 = .ok (.ireturn, 1) := by decide +kernel
theorem dX10_clear_0 : decode cX10_clear 0 = .ok (.aload_n 0, 1) := by decide +kernel
theorem dX10_clear_1 : decode cX10_clear 1 = .ok (.getfield 10, 3) := by decide +kernel
theorem dX10_clear_4 : decode cX10_clear 4 = .ok (.getfield 89, 3) := by decide +kernel
theorem dX10_clear_7 : decode cX10_clear 7 = .ok (.istore_n 1, 1) := by decide +kernel
theorem dX10_clear_8 : decode cX10_clear 8 = .ok (.aload_n 0, 1) := by decide +kernel
theorem dX10_clear_9 : decode cX10_clear 9 = .ok (.getfield 10, 3) := by decide +kernel
theorem dX10_clear_12 : decode cX10_clear 12 = .ok (.aload_n 0, 1) := by decide +kernel
theorem dX10_clear_13 : decode cX10_clear 13 = .ok (.getfield 10, 3) := by decide +kernel
theorem dX10_clear_16 : decode cX10_clear 16 = .ok (.getfield 92, 3) := by decide +kernel
theorem dX10_clear_19 : decode cX10_clear 19 = .ok (.invokevirtual 58, 3) := by decide +kernel
theorem dX10_clear_22 : decode cX10_clear 22 = .ok (.aload_n 0, 1) := by decide +kernel
theorem dX10_clear_23 : decode cX10_clear 23 = .ok (.getfield 22, 3) := by decide +kernel
theorem dX10_clear_26 : decode cX10_clear 26 = .ok (.iconst 0, 1) := by decide +kernel
theorem dX10_clear_27 : decode cX10_clear 27 = .ok (.putfield 62, 3) := by decide +kernel
theorem dX10_clear_30 : decode cX10_clear 30 = .ok (.aload_n 0, 1) := by decide +kernel
theorem dX10_clear_31 : decode cX10_clear 31 = .ok (.getfield 29, 3) := by decide +kernel
theorem dX10_clear_34 : decode cX10_clear 34 = .ok (.invokevirtual 72, 3) := by decide +kernel
theorem dX10_clear_37 : decode cX10_clear 37 = .ok (.aload_n 0, 1) := by decide +kernel
theorem dX10_clear_38 : decode cX10_clear 38 = .ok (.getfield 50, 3) := by decide +kernel
theorem dX10_clear_41 : decode cX10_clear 41 = .ok (.iconst 0, 1) := by decide +kernel
theorem dX10_clear_42 : decode cX10_clear 42 = .ok (.putfield 95, 3) := by decide +kernel
theorem dX10_clear_45 : decode cX10_clear 45 = .ok (.aload_n 0, 1) := by decide +kernel
theorem dX10_clear_46 : decode cX10_clear 46 = .ok (.iconst 0, 1) := by decide +kernel
theorem dX10_clear_47 : decode cX10_clear 47 = .ok (.putfield 98, 3) := by decide +kernel
theorem dX10_clear_50 : decode cX10_clear 50 = .ok (.aload_n 0, 1) := by decide +kernel
theorem dX10_clear_51 : decode cX10_clear 51 = .ok (.iconst 0, 1) := by decide +kernel
theorem dX10_clear_52 : decode cX10_clear 52 = .ok (.putfield 105, 3) := by decide +kernel
theorem dX10_clear_55 : decode cX10_clear 55 = .ok (.aload_n 0, 1) := by decide +kernel
theorem dX10_clear_56 : decode cX10_clear 56 = .ok (.iconst 0, 1) := by decide +kernel
theorem dX10_clear_57 : decode cX10_clear 57 = .ok (.putfield 207, 3) := by decide +kernel
theorem dX10_clear_60 : decode cX10_clear 60 = .ok (.iload_n 1, 1) := by decide +kernel
theorem dX10_clear_61 : decode cX10_clear 61 = .ok (.ireturn, 1) := by decide +kernel
theorem dX10_finish_0 : decode cX10_finish 0 = .ok (.aload_n 0, 1) := by decide +kernel
theorem dX10_finish_1 : decode cX10_finish 1 = .ok (.aload_n 0, 1) := by decide +kernel
theorem dX10_finish_2 : decode cX10_finish 2 = .ok (.getfield 50, 3) := by decide +kernel
theorem dX10_finish_5 : decode cX10_finish 5 = .ok (.getfield 210, 3) := by decide +kernel
theorem dX10_finish_8 : decode cX10_finish 8 = .ok (.putfield 105, 3) := by decide +kernel
theorem dX10_finish_11 : decode cX10_finish 11 = .ok (.aload_n 0, 1) := by decide +kernel
theorem dX10_finish_12 : decode cX10_finish 12 = .ok (.getfield 105, 3) := by decide +kernel
theorem dX10_finish_15 : decode cX10_finish 15 = .ok (.ifCond .ne 5, 3) := by decide +kernel
theorem dX10_finish_18 : decode cX10_finish 18 = .ok (.iload_n 1, 1) := by decide +kernel
theorem dX10_finish_19 : decode cX10_finish 19 = .ok (.ireturn, 1) := by decide +kernel
theorem dX10_finish_20 : decode cX10_finish 20 = .ok (.aload_n 0, 1) := by decide +kernel
theorem dX10_finish_21 : decode cX10_finish 21 = .ok (.dup, 1) := by decide +kernel
theorem dX10_finish_22 : decode cX10_finish 22 = .ok (.getfield 207, 3) := by decide +kernel
theorem dX10_finish_25 : decode cX10_finish 25 = .ok (.iconst 1, 1) := by decide +kernel
theorem dX10_finish_26 : decode cX10_finish 26 = .ok (.iadd, 1) := by decide +kernel
theorem dX10_finish_27 : decode cX10_finish 27 = .ok (.putfield 207, 3) := by decide +kernel
theorem dX10_finish_30 : decode cX10_finish 30 = .ok (.iconst 0, 1) := by decide +kernel
theorem dX10_finish_31 : decode cX10_finish 31 = .ok (.ireturn, 1) := by decide +kernel
