theorem dX1_init_0 : decode cX1_init 0 = .ok (.aload_n 0, 1) := by decide +kernel
theorem dX1_init_1 : decode cX1_init 1 = .ok (.invokespecial 3, 3) := by decide +kernel
theorem dX1_init_4 : decode cX1_init 4 = .ok (.aload_n 0, 1) := by decide +kernel
theorem dX1_init_5 : decode cX1_init 5 = .ok (.bipush 20, 2) := by decide +kernel
theorem dX1_init_7 : decode cX1_init 7 = .ok (.putfield 9, 3) := by decide +kernel
theorem dX1_init_10 : decode cX1_init 10 = .ok (.aload_n 0, 1) := by decide +kernel
theorem dX1_init_11 : decode cX1_init 11 = .ok (.sipush 200, 3) := by decide +kernel
theorem dX1_init_14 : decode cX1_init 14 = .ok (.putfield 15, 3) := by decide +kernel
theorem dX1_init_17 : decode cX1_init 17 = .ok (.aload_n 0, 1) := by decide +kernel
theorem dX1_init_18 : decode cX1_init 18 = .ok (.bipush 20, 2) := by decide +kernel
theorem dX1_init_20 : decode cX1_init 20 = .ok (.newarray .int, 2) := by decide +kernel
theorem dX1_init_22 : decode cX1_init 22 = .ok (.putfield 18, 3) := by decide +kernel
theorem dX1_init_25 : decode cX1_init 25 = .ok (.aload_n 0, 1) := by decide +kernel
theorem dX1_init_26 : decode cX1_init 26 = .ok (.sipush 200, 3) := by decide +kernel
theorem dX1_init_29 : decode cX1_init 29 = .ok (.newarray .int, 2) := by decide +kernel
theorem dX1_init_31 : decode cX1_init 31 = .ok (.putfield 22, 3) := by decide +kernel
theorem dX1_init_34 : decode cX1_init 34 = .ok (.aload_n 0, 1) := by decide +kernel
theorem dX1_init_35 : decode cX1_init 35 = .ok (.bipush 20, 2) := by decide +kernel
theorem dX1_init_37 : decode cX1_init 37 = .ok (.newarray .int, 2) := by decide +kernel
theorem dX1_init_39 : decode cX1_init 39 = .ok (.putfield 25, 3) := by decide +kernel
theorem dX1_init_42 : decode cX1_init 42 = .ok (.aload_n 0, 1) := by decide +kernel
theorem dX1_init_43 : decode cX1_init 43 = .ok (.sipush 200, 3) := by decide +kernel
theorem dX1_init_46 : decode cX1_init 46 = .ok (.newarray .int, 2) := by decide +kernel
theorem dX1_init_48 : decode cX1_init 48 = .ok (.putfield 28, 3) := by decide +kernel
theorem dX1_init_51 : decode cX1_init 51 = .ok (.aload_n 0, 1) := by decide +kernel
theorem dX1_init_52 : decode cX1_init 52 = .ok (.sipush 200, 3) := by decide +kernel
theorem dX1_init_55 : decode cX1_init 55 = .ok (.newarray .int, 2) := by decide +kernel
theorem dX1_init_57 : decode cX1_init 57 = .ok (.putfield 31, 3) := by decide +kernel
theorem dX1_init_60 : decode cX1_init 60 = .ok (.aload_n 0, 1) := by decide +kernel
theorem dX1_init_61 : decode cX1_init 61 = .ok (.sipush 200, 3) := by decide +kernel
theorem dX1_init_64 : decode cX1_init 64 = .ok (.newarray .int, 2) := by decide +kernel
theorem dX1_init_66 : decode cX1_init 66 = .ok (.putfield 34, 3) := by decide +kernel
theorem dX1_init_69 : decode cX1_init 69 = .ok (.aload_n 0, 1) := by decide +kernel
theorem dX1_init_70 : decode cX1_init 70 = .ok (.bipush 20, 2) := by decide +kernel
theorem dX1_init_72 : decode cX1_init 72 = .ok (.newarray .int, 2) := by decide +kernel
theorem dX1_init_74 : decode cX1_init 74 = .ok (.putfield 37, 3) := by decide +kernel
theorem dX1_init_77 : decode cX1_init 77 = .ok (.aload_n 0, 1) := by decide +kernel
theorem dX1_init_78 : decode cX1_init 78 = .ok (.bipush 20, 2) := by decide +kernel
theorem dX1_init_80 : decode cX1_init 80 = .ok (.newarray .int, 2) := by decide +kernel
theorem dX1_init_82 : decode cX1_init 82 = .ok (.putfield 40, 3) := by decide +kernel
theorem dX1_init_85 : decode cX1_init 85 = .ok (.aload_n 0, 1) := by decide +kernel
theorem dX1_init_86 : decode cX1_init 86 = .ok (.aload_n 1, 1) := by decide +kernel
theorem dX1_init_87 : decode cX1_init 87 = .ok (.putfield 43, 3) := by decide +kernel
theorem dX1_init_90 : decode cX1_init 90 = .ok (.aload_n 0, 1) := by decide +kernel
theorem dX1_init_91 : decode cX1_init 91 = .ok (.aload_n 2, 1) := by decide +kernel
theorem dX1_init_92 : decode cX1_init 92 = .ok (.putfield 47, 3) := by decide +kernel
theorem dX1_init_95 : decode cX1_init 95 = .ok (.return_, 1) := by decide +kernel
theorem dX1_forget_0 : decode cX1_forget 0 = .ok (.aload_n 0, 1) := by decide +kernel
theorem dX1_forget_1 : decode cX1_forget 1 = .ok (.aconst_null, 1) := by decide +kernel
theorem dX1_forget_2 : decode cX1_forget 2 = .ok (.putfield 51, 3) := by decide +kernel
theorem dX1_forget_5 : decode cX1_forget 5 = .ok (.return_, 1) := by decide +kernel
theorem dX1_gather_0 : decode cX1_gather 0 = .ok (.aload_n 0, 1) := by decide +kernel
theorem dX1_gather_1 : decode cX1_gather 1 = .ok (.getfield 51, 3) := by decide +kernel
theorem dX1_gather_4 : decode cX1_gather 4 = .ok (.aload_n 1, 1) := by decide +kernel
theorem dX1_gather_5 : decode cX1_gather 5 = .ok (.if_acmp .ne 4, 3) := by decide +kernel
theorem dX1_gather_8 : decode cX1_gather 8 = .ok (.return_, 1) := by decide +kernel
theorem dX1_gather_9 : decode cX1_gather 9 = .ok (.aload_n 0, 1) := by decide +kernel
theorem dX1_gather_10 : decode cX1_gather 10 = .ok (.aload_n 1, 1) := by decide +kernel
theorem dX1_gather_11 : decode cX1_gather 11 = .ok (.putfield 51, 3) := by decide +kernel
theorem dX1_gather_14 : decode cX1_gather 14 = .ok (.aload_n 0, 1) := by decide +kernel
theorem dX1_gather_15 : decode cX1_gather 15 = .ok (.iconst 0, 1) := by decide +kernel
theorem dX1_gather_16 : decode cX1_gather 16 = .ok (.putfield 55, 3) := by decide +kernel
theorem dX1_gather_19 : decode cX1_gather 19 = .ok (.aload_n 0, 1) := by decide +kernel
theorem dX1_gather_20 : decode cX1_gather 20 = .ok (.aload_n 1, 1) := by decide +kernel
theorem dX1_gather_21 : decode cX1_gather 21 = .ok (.getfield 59, 3) := by decide +kernel
theorem dX1_gather_24 : decode cX1_gather 24 = .ok (.putfield 64, 3) := by decide +kernel
theorem dX1_gather_27 : decode cX1_gather 27 = .ok (.iconst 0, 1) := by decide +kernel
theorem dX1_gather_28 : decode cX1_gather 28 = .ok (.istore_n 2, 1) := by decide +kernel
theorem dX1_gather_29 : decode cX1_gather 29 = .ok (.iload_n 2, 1) := by decide +kernel
theorem dX1_gather_30 : decode cX1_gather 30 = .ok (.aload_n 0, 1) := by decide +kernel
theorem dX1_gather_31 : decode cX1_gather 31 = .ok (.getfield 64, 3) := by decide +kernel
theorem dX1_gather_34 : decode cX1_gather 34 = .ok (.if_icmp .ge 32, 3) := by decide +kernel
theorem dX1_gather_37 : decode cX1_gather 37 = .ok (.aload_n 0, 1) := by decide +kernel
theorem dX1_gather_38 : decode cX1_gather 38 = .ok (.iload_n 2, 1) := by decide +kernel
theorem dX1_gather_39 : decode cX1_gather 39 = .ok (.aload_n 1, 1) := by decide +kernel
theorem dX1_gather_40 : decode cX1_gather 40 = .ok (.getfield 65, 3) := by decide +kernel
theorem dX1_gather_43 : decode cX1_gather 43 = .ok (.iload_n 2, 1) := by decide +kernel
theorem dX1_gather_44 : decode cX1_gather 44 = .ok (.iaload, 1) := by decide +kernel
theorem dX1_gather_45 : decode cX1_gather 45 = .ok (.aload_n 1, 1) := by decide +kernel
theorem dX1_gather_46 : decode cX1_gather 46 = .ok (.getfield 68, 3) := by decide +kernel
theorem dX1_gather_49 : decode cX1_gather 49 = .ok (.iload_n 2, 1) := by decide +kernel
theorem dX1_gather_50 : decode cX1_gather 50 = .ok (.iaload, 1) := by decide +kernel
theorem dX1_gather_51 : decode cX1_gather 51 = .ok (.aload_n 1, 1) := by decide +kernel
theorem dX1_gather_52 : decode cX1_gather 52 = .ok (.getfield 71, 3) := by decide +kernel
theorem dX1_gather_55 : decode cX1_gather 55 = .ok (.iload_n 2, 1) := by decide +kernel
theorem dX1_gather_56 : decode cX1_gather 56 = .ok (.iaload, 1) := by decide +kernel
theorem dX1_gather_57 : decode cX1_gather 57 = .ok (.invokevirtual 74, 3) := by decide +kernel
theorem dX1_gather_60 : decode cX1_gather 60 = .ok (.iinc 2 1, 3) := by decide +kernel
theorem dX1_gather_63 : decode cX1_gather 63 = .ok (.goto (-34), 3) := by decide +kernel
theorem dX1_gather_66 : decode cX1_gather 66 = .ok (.return_, 1) := by decide +kernel
theorem dX1_settle_0 : decode cX1_settle 0 = .ok (.aload_n 1, 1) := by decide +kernel
theorem dX1_settle_1 : decode cX1_settle 1 = .ok (.ifnonnull 5, 3) := by decide +kernel
theorem dX1_settle_4 : decode cX1_settle 4 = .ok (.iconst (-1), 1) := by decide +kernel
theorem dX1_settle_5 : decode cX1_settle 5 = .ok (.ireturn, 1) := by decide +kernel
theorem dX1_settle_6 : decode cX1_settle 6 = .ok (.aload_n 0, 1) := by decide +kernel
theorem dX1_settle_7 : decode cX1_settle 7 = .ok (.aload_n 1, 1) := by decide +kernel
theorem dX1_settle_8 : decode cX1_settle 8 = .ok (.invokevirtual 78, 3) := by decide +kernel
theorem dX1_settle_11 : decode cX1_settle 11 = .ok (.aload_n 0, 1) := by decide +kernel
theorem dX1_settle_12 : decode cX1_settle 12 = .ok (.getfield 55, 3) := by decide +kernel
theorem dX1_settle_15 : decode cX1_settle 15 = .ok (.ifCond .eq 8, 3) := by decide +kernel
theorem dX1_settle_18 : decode cX1_settle 18 = .ok (.aload_n 0, 1) := by decide +kernel
theorem dX1_settle_19 : decode cX1_settle 19 = .ok (.getfield 82, 3) := by decide +kernel
theorem dX1_settle_22 : decode cX1_settle 22 = .ok (.ireturn, 1) := by decide +kernel
theorem dX1_settle_23 : decode cX1_settle 23 = .ok (.iconst 0, 1) := by decide +kernel
theorem dX1_settle_24 : decode cX1_settle 24 = .ok (.istore_n 2, 1) := by decide +kernel
theorem dX1_settle_25 : decode cX1_settle 25 = .ok (.iload_n 2, 1) := by decide +kernel
theorem dX1_settle_26 : decode cX1_settle 26 = .ok (.aload_n 0, 1) := by decide +kernel
theorem dX1_settle_27 : decode cX1_settle 27 = .ok (.getfield 64, 3) := by decide +kernel
theorem dX1_settle_30 : decode cX1_settle 30 = .ok (.if_icmp .ge 42, 3) := by decide +kernel
theorem dX1_settle_33 : decode cX1_settle 33 = .ok (.iconst 0, 1) := by decide +kernel
theorem dX1_settle_34 : decode cX1_settle 34 = .ok (.istore_n 3, 1) := by decide +kernel
theorem dX1_settle_35 : decode cX1_settle 35 = .ok (.iload_n 3, 1) := by decide +kernel
theorem dX1_settle_36 : decode cX1_settle 36 = .ok (.aload_n 0, 1) := by decide +kernel
theorem dX1_settle_37 : decode cX1_settle 37 = .ok (.getfield 18, 3) := by decide +kernel
theorem dX1_settle_40 : decode cX1_settle 40 = .ok (.iload_n 2, 1) := by decide +kernel
theorem dX1_settle_41 : decode cX1_settle 41 = .ok (.iaload, 1) := by decide +kernel
theorem dX1_settle_42 : decode cX1_settle 42 = .ok (.if_icmp .ge 24, 3) := by decide +kernel
theorem dX1_settle_45 : decode cX1_settle 45 = .ok (.aload_n 0, 1) := by decide +kernel
theorem dX1_settle_46 : decode cX1_settle 46 = .ok (.iload_n 2, 1) := by decide +kernel
theorem dX1_settle_47 : decode cX1_settle 47 = .ok (.iload_n 2, 1) := by decide +kernel
theorem dX1_settle_48 : decode cX1_settle 48 = .ok (.bipush 10, 2) := by decide +kernel
theorem dX1_settle_50 : decode cX1_settle 50 = .ok (.imul, 1) := by decide +kernel
theorem dX1_settle_51 : decode cX1_settle 51 = .ok (.iload_n 3, 1) := by decide +kernel
theorem dX1_settle_52 : decode cX1_settle 52 = .ok (.iadd, 1) := by decide +kernel
theorem dX1_settle_53 : decode cX1_settle 53 = .ok (.aload_n 1, 1) := by decide +kernel
theorem dX1_settle_54 : decode cX1_settle 54 = .ok (.getfield 85, 3) := by decide +kernel
theorem dX1_settle_57 : decode cX1_settle 57 = .ok (.invokevirtual 88, 3) := by decide +kernel
theorem dX1_settle_60 : decode cX1_settle 60 = .ok (.iinc 3 1, 3) := by decide +kernel
theorem dX1_settle_63 : decode cX1_settle 63 = .ok (.goto (-28), 3) := by decide +kernel
theorem dX1_settle_66 : decode cX1_settle 66 = .ok (.iinc 2 1, 3) := by decide +kernel
theorem dX1_settle_69 : decode cX1_settle 69 = .ok (.goto (-44), 3) := by decide +kernel
theorem dX1_settle_72 : decode cX1_settle 72 = .ok (.aload_n 0, 1) := by decide +kernel
theorem dX1_settle_73 : decode cX1_settle 73 = .ok (.invokevirtual 92, 3) := by decide +kernel
theorem dX1_settle_76 : decode cX1_settle 76 = .ok (.aload_n 0, 1) := by decide +kernel
theorem dX1_settle_77 : decode cX1_settle 77 = .ok (.iconst 1, 1) := by decide +kernel
theorem dX1_settle_78 : decode cX1_settle 78 = .ok (.putfield 55, 3) := by decide +kernel
theorem dX1_settle_81 : decode cX1_settle 81 = .ok (.aload_n 0, 1) := by decide +kernel
theorem dX1_settle_82 : decode cX1_settle 82 = .ok (.getfield 82, 3) := by decide +kernel
theorem dX1_settle_85 : decode cX1_settle 85 = .ok (.ireturn, 1) := by decide +kernel
theorem dX1_findSpots_0 : decode cX1_findSpots 0 = .ok (.aload_n 0, 1) := by decide +kernel
theorem dX1_findSpots_1 : decode cX1_findSpots 1 = .ok (.getfield 18, 3) := by decide +kernel
theorem dX1_findSpots_4 : decode cX1_findSpots 4 = .ok (.iload_n 1, 1) := by decide +kernel
theorem dX1_findSpots_5 : decode cX1_findSpots 5 = .ok (.iconst 0, 1) := by decide +kernel
theorem dX1_findSpots_6 : decode cX1_findSpots 6 = .ok (.iastore, 1) := by decide +kernel
theorem dX1_findSpots_7 : decode cX1_findSpots 7 = .ok (.iconst 5, 1) := by decide +kernel
theorem dX1_findSpots_8 : decode cX1_findSpots 8 = .ok (.aload_n 0, 1) := by decide +kernel
theorem dX1_findSpots_9 : decode cX1_findSpots 9 = .ok (.getfield 43, 3) := by decide +kernel
theorem dX1_findSpots_12 : decode cX1_findSpots 12 = .ok (.getfield 95, 3) := by decide +kernel
theorem dX1_findSpots_15 : decode cX1_findSpots 15 = .ok (.imul, 1) := by decide +kernel
theorem dX1_findSpots_16 : decode cX1_findSpots 16 = .ok (.istore 5, 2) := by decide +kernel
theorem dX1_findSpots_18 : decode cX1_findSpots 18 = .ok (.iconst 0, 1) := by decide +kernel
theorem dX1_findSpots_19 : decode cX1_findSpots 19 = .ok (.istore 6, 2) := by decide +kernel
theorem dX1_findSpots_21 : decode cX1_findSpots 21 = .ok (.iload 6, 2) := by decide +kernel
theorem dX1_findSpots_23 : decode cX1_findSpots 23 = .ok (.iload 5, 2) := by decide +kernel
theorem dX1_findSpots_25 : decode cX1_findSpots 25 = .ok (.if_icmp .ge 57, 3) := by decide +kernel
theorem dX1_findSpots_28 : decode cX1_findSpots 28 = .ok (.aload_n 0, 1) := by decide +kernel
theorem dX1_findSpots_29 : decode cX1_findSpots 29 = .ok (.getfield 43, 3) := by decide +kernel
theorem dX1_findSpots_32 : decode cX1_findSpots 32 = .ok (.getfield 100, 3) := by decide +kernel
theorem dX1_findSpots_35 : decode cX1_findSpots 35 = .ok (.iload 6, 2) := by decide +kernel
theorem dX1_findSpots_37 : decode cX1_findSpots 37 = .ok (.iconst 5, 1) := by decide +kernel
theorem dX1_findSpots_38 : decode cX1_findSpots 38 = .ok (.idiv, 1) := by decide +kernel
theorem dX1_findSpots_39 : decode cX1_findSpots 39 = .ok (.iaload, 1) := by decide +kernel
theorem dX1_findSpots_40 : decode cX1_findSpots 40 = .ok (.iconst 2, 1) := by decide +kernel
theorem dX1_findSpots_41 : decode cX1_findSpots 41 = .ok (.if_icmp .eq 35, 3) := by decide +kernel
theorem dX1_findSpots_44 : decode cX1_findSpots 44 = .ok (.aload_n 0, 1) := by decide +kernel
theorem dX1_findSpots_45 : decode cX1_findSpots 45 = .ok (.getfield 43, 3) := by decide +kernel
theorem dX1_findSpots_48 : decode cX1_findSpots 48 = .ok (.iload 6, 2) := by decide +kernel
theorem dX1_findSpots_50 : decode cX1_findSpots 50 = .ok (.iload_n 2, 1) := by decide +kernel
theorem dX1_findSpots_51 : decode cX1_findSpots 51 = .ok (.iload_n 3, 1) := by decide +kernel
theorem dX1_findSpots_52 : decode cX1_findSpots 52 = .ok (.invokevirtual 103, 3) := by decide +kernel
theorem dX1_findSpots_55 : decode cX1_findSpots 55 = .ok (.istore 7, 2) := by decide +kernel
theorem dX1_findSpots_57 : decode cX1_findSpots 57 = .ok (.iload 7, 2) := by decide +kernel
theorem dX1_findSpots_59 : decode cX1_findSpots 59 = .ok (.iload 4, 2) := by decide +kernel
theorem dX1_findSpots_61 : decode cX1_findSpots 61 = .ok (.iload 4, 2) := by decide +kernel
theorem dX1_findSpots_63 : decode cX1_findSpots 63 = .ok (.imul, 1) := by decide +kernel
theorem dX1_findSpots_64 : decode cX1_findSpots 64 = .ok (.if_icmp .gt 12, 3) := by decide +kernel
theorem dX1_findSpots_67 : decode cX1_findSpots 67 = .ok (.aload_n 0, 1) := by decide +kernel
theorem dX1_findSpots_68 : decode cX1_findSpots 68 = .ok (.iload_n 1, 1) := by decide +kernel
theorem dX1_findSpots_69 : decode cX1_findSpots 69 = .ok (.iload 6, 2) := by decide +kernel
theorem dX1_findSpots_71 : decode cX1_findSpots 71 = .ok (.iload 7, 2) := by decide +kernel
theorem dX1_findSpots_73 : decode cX1_findSpots 73 = .ok (.invokevirtual 107, 3) := by decide +kernel
theorem dX1_findSpots_76 : decode cX1_findSpots 76 = .ok (.iinc 6 1, 3) := by decide +kernel
theorem dX1_findSpots_79 : decode cX1_findSpots 79 = .ok (.goto (-58), 3) := by decide +kernel
theorem dX1_findSpots_82 : decode cX1_findSpots 82 = .ok (.return_, 1) := by decide +kernel
theorem dX1_addSpot_0 : decode cX1_addSpot 0 = .ok (.iload_n 1, 1) := by decide +kernel
theorem dX1_addSpot_1 : decode cX1_addSpot 1 = .ok (.bipush 10, 2) := by decide +kernel
theorem dX1_addSpot_3 : decode cX1_addSpot 3 = .ok (.imul, 1) := by decide +kernel
theorem dX1_addSpot_4 : decode cX1_addSpot 4 = .ok (.istore 4, 2) := by decide +kernel
theorem dX1_addSpot_6 : decode cX1_addSpot 6 = .ok (.aload_n 0, 1) := by decide +kernel
theorem dX1_addSpot_7 : decode cX1_addSpot 7 = .ok (.getfield 18, 3) := by decide +kernel
theorem dX1_addSpot_10 : decode cX1_addSpot 10 = .ok (.iload_n 1, 1) := by decide +kernel
theorem dX1_addSpot_11 : decode cX1_addSpot 11 = .ok (.iaload, 1) := by decide +kernel
theorem dX1_addSpot_12 : decode cX1_addSpot 12 = .ok (.bipush 10, 2) := by decide +kernel
theorem dX1_addSpot_14 : decode cX1_addSpot 14 = .ok (.if_icmp .lt 85, 3) := by decide +kernel
theorem dX1_addSpot_17 : decode cX1_addSpot 17 = .ok (.aload_n 0, 1) := by decide +kernel
theorem dX1_addSpot_18 : decode cX1_addSpot 18 = .ok (.iload 4, 2) := by decide +kernel
theorem dX1_addSpot_20 : decode cX1_addSpot 20 = .ok (.invokevirtual 111, 3) := by decide +kernel
theorem dX1_addSpot_23 : decode cX1_addSpot 23 = .ok (.istore 5, 2) := by decide +kernel
theorem dX1_addSpot_25 : decode cX1_addSpot 25 = .ok (.aload_n 0, 1) := by decide +kernel
theorem dX1_addSpot_26 : decode cX1_addSpot 26 = .ok (.getfield 28, 3) := by decide +kernel
theorem dX1_addSpot_29 : decode cX1_addSpot 29 = .ok (.iload 5, 2) := by decide +kernel
theorem dX1_addSpot_31 : decode cX1_addSpot 31 = .ok (.iaload, 1) := by decide +kernel
theorem dX1_addSpot_32 : decode cX1_addSpot 32 = .ok (.iload_n 3, 1) := by decide +kernel
theorem dX1_addSpot_33 : decode cX1_addSpot 33 = .ok (.if_icmp .gt 4, 3) := by decide +kernel
theorem dX1_addSpot_36 : decode cX1_addSpot 36 = .ok (.return_, 1) := by decide +kernel
theorem dX1_addSpot_37 : decode cX1_addSpot 37 = .ok (.iload 5, 2) := by decide +kernel
theorem dX1_addSpot_39 : decode cX1_addSpot 39 = .ok (.istore 6, 2) := by decide +kernel
theorem dX1_addSpot_41 : decode cX1_addSpot 41 = .ok (.iload 6, 2) := by decide +kernel
theorem dX1_addSpot_43 : decode cX1_addSpot 43 = .ok (.iload 4, 2) := by decide +kernel
theorem dX1_addSpot_45 : decode cX1_addSpot 45 = .ok (.bipush 10, 2) := by decide +kernel
theorem dX1_addSpot_47 : decode cX1_addSpot 47 = .ok (.iadd, 1) := by decide +kernel
theorem dX1_addSpot_48 : decode cX1_addSpot 48 = .ok (.iconst 1, 1) := by decide +kernel
theorem dX1_addSpot_49 : decode cX1_addSpot 49 = .ok (.isub, 1) := by decide +kernel
theorem dX1_addSpot_50 : decode cX1_addSpot 50 = .ok (.if_icmp .ge 41, 3) := by decide +kernel
theorem dX1_addSpot_53 : decode cX1_addSpot 53 = .ok (.aload_n 0, 1) := by decide +kernel
theorem dX1_addSpot_54 : decode cX1_addSpot 54 = .ok (.getfield 22, 3) := by decide +kernel
theorem dX1_addSpot_57 : decode cX1_addSpot 57 = .ok (.iload 6, 2) := by decide +kernel
theorem dX1_addSpot_59 : decode cX1_addSpot 59 = .ok (.aload_n 0, 1) := by decide +kernel
theorem dX1_addSpot_60 : decode cX1_addSpot 60 = .ok (.getfield 22, 3) := by decide +kernel
theorem dX1_addSpot_63 : decode cX1_addSpot 63 = .ok (.iload 6, 2) := by decide +kernel
theorem dX1_addSpot_65 : decode cX1_addSpot 65 = .ok (.iconst 1, 1) := by decide +kernel
theorem dX1_addSpot_66 : decode cX1_addSpot 66 = .ok (.iadd, 1) := by decide +kernel
theorem dX1_addSpot_67 : decode cX1_addSpot 67 = .ok (.iaload, 1) := by decide +kernel
theorem dX1_addSpot_68 : decode cX1_addSpot 68 = .ok (.iastore, 1) := by decide +kernel
theorem dX1_addSpot_69 : decode cX1_addSpot 69 = .ok (.aload_n 0, 1) := by decide +kernel
theorem dX1_addSpot_70 : decode cX1_addSpot 70 = .ok (.getfield 28, 3) := by decide +kernel
theorem dX1_addSpot_73 : decode cX1_addSpot 73 = .ok (.iload 6, 2) := by decide +kernel
theorem dX1_addSpot_75 : decode cX1_addSpot 75 = .ok (.aload_n 0, 1) := by decide +kernel
theorem dX1_addSpot_76 : decode cX1_addSpot 76 = .ok (.getfield 28, 3) := by decide +kernel
theorem dX1_addSpot_79 : decode cX1_addSpot 79 = .ok (.iload 6, 2) := by decide +kernel
theorem dX1_addSpot_81 : decode cX1_addSpot 81 = .ok (.iconst 1, 1) := by decide +kernel
theorem dX1_addSpot_82 : decode cX1_addSpot 82 = .ok (.iadd, 1) := by decide +kernel
theorem dX1_addSpot_83 : decode cX1_addSpot 83 = .ok (.iaload, 1) := by decide +kernel
theorem dX1_addSpot_84 : decode cX1_addSpot 84 = .ok (.iastore, 1) := by decide +kernel
theorem dX1_addSpot_85 : decode cX1_addSpot 85 = .ok (.iinc 6 1, 3) := by decide +kernel
theorem dX1_addSpot_88 : decode cX1_addSpot 88 = .ok (.goto (-47), 3) := by decide +kernel
theorem dX1_addSpot_91 : decode cX1_addSpot 91 = .ok (.aload_n 0, 1) := by decide +kernel
theorem dX1_addSpot_92 : decode cX1_addSpot 92 = .ok (.getfield 18, 3) := by decide +kernel
theorem dX1_addSpot_95 : decode cX1_addSpot 95 = .ok (.iload_n 1, 1) := by decide +kernel
theorem dX1_addSpot_96 : decode cX1_addSpot 96 = .ok (.bipush 9, 2) := by decide +kernel
theorem dX1_addSpot_98 : decode cX1_addSpot 98 = .ok (.iastore, 1) := by decide +kernel
theorem dX1_addSpot_99 : decode cX1_addSpot 99 = .ok (.aload_n 0, 1) := by decide +kernel
theorem dX1_addSpot_100 : decode cX1_addSpot 100 = .ok (.getfield 22, 3) := by decide +kernel
theorem dX1_addSpot_103 : decode cX1_addSpot 103 = .ok (.iload 4, 2) := by decide +kernel
theorem dX1_addSpot_105 : decode cX1_addSpot 105 = .ok (.aload_n 0, 1) := by decide +kernel
theorem dX1_addSpot_106 : decode cX1_addSpot 106 = .ok (.getfield 18, 3) := by decide +kernel
theorem dX1_addSpot_109 : decode cX1_addSpot 109 = .ok (.iload_n 1, 1) := by decide +kernel
theorem dX1_addSpot_110 : decode cX1_addSpot 110 = .ok (.iaload, 1) := by decide +kernel
theorem dX1_addSpot_111 : decode cX1_addSpot 111 = .ok (.iadd, 1) := by decide +kernel
theorem dX1_addSpot_112 : decode cX1_addSpot 112 = .ok (.iload_n 2, 1) := by decide +kernel
theorem dX1_addSpot_113 : decode cX1_addSpot 113 = .ok (.iastore, 1) := by decide +kernel
theorem dX1_addSpot_114 : decode cX1_addSpot 114 = .ok (.aload_n 0, 1) := by decide +kernel
theorem dX1_addSpot_115 : decode cX1_addSpot 115 = .ok (.getfield 28, 3) := by decide +kernel
theorem dX1_addSpot_118 : decode cX1_addSpot 118 = .ok (.iload 4, 2) := by decide +kernel
theorem dX1_addSpot_120 : decode cX1_addSpot 120 = .ok (.aload_n 0, 1) := by decide +kernel
theorem dX1_addSpot_121 : decode cX1_addSpot 121 = .ok (.getfield 18, 3) := by decide +kernel
theorem dX1_addSpot_124 : decode cX1_addSpot 124 = .ok (.iload_n 1, 1) := by decide +kernel
theorem dX1_addSpot_125 : decode cX1_addSpot 125 = .ok (.iaload, 1) := by decide +kernel
theorem dX1_addSpot_126 : decode cX1_addSpot 126 = .ok (.iadd, 1) := by decide +kernel
theorem dX1_addSpot_127 : decode cX1_addSpot 127 = .ok (.iload_n 3, 1) := by decide +kernel
theorem dX1_addSpot_128 : decode cX1_addSpot 128 = .ok (.iastore, 1) := by decide +kernel
theorem dX1_addSpot_129 : decode cX1_addSpot 129 = .ok (.aload_n 0, 1) := by decide +kernel
theorem dX1_addSpot_130 : decode cX1_addSpot 130 = .ok (.getfield 18, 3) := by decide +kernel
theorem dX1_addSpot_133 : decode cX1_addSpot 133 = .ok (.iload_n 1, 1) := by decide +kernel
theorem dX1_addSpot_134 : decode cX1_addSpot 134 = .ok (.dup2, 1) := by decide +kernel
theorem dX1_addSpot_135 : decode cX1_addSpot 135 = .ok (.iaload, 1) := by decide +kernel
theorem dX1_addSpot_136 : decode cX1_addSpot 136 = .ok (.iconst 1, 1) := by decide +kernel
theorem dX1_addSpot_137 : decode cX1_addSpot 137 = .ok (.iadd, 1) := by decide +kernel
theorem dX1_addSpot_138 : decode cX1_addSpot 138 = .ok (.iastore, 1) := by decide +kernel
theorem dX1_addSpot_139 : decode cX1_addSpot 139 = .ok (.return_, 1) := by decide +kernel
theorem dX1_worstSlot_0 : decode cX1_worstSlot 0 = .ok (.iload_n 1, 1) := by decide +kernel
theorem dX1_worstSlot_1 : decode cX1_worstSlot 1 = .ok (.istore_n 2, 1) := by decide +kernel
theorem dX1_worstSlot_2 : decode cX1_worstSlot 2 = .ok (.iload_n 1, 1) := by decide +kernel
theorem dX1_worstSlot_3 : decode cX1_worstSlot 3 = .ok (.istore_n 3, 1) := by decide +kernel
theorem dX1_worstSlot_4 : decode cX1_worstSlot 4 = .ok (.iload_n 3, 1) := by decide +kernel
theorem dX1_worstSlot_5 : decode cX1_worstSlot 5 = .ok (.iload_n 1, 1) := by decide +kernel
theorem dX1_worstSlot_6 : decode cX1_worstSlot 6 = .ok (.bipush 10, 2) := by decide +kernel
theorem dX1_worstSlot_8 : decode cX1_worstSlot 8 = .ok (.iadd, 1) := by decide +kernel
theorem dX1_worstSlot_9 : decode cX1_worstSlot 9 = .ok (.if_icmp .ge 26, 3) := by decide +kernel
theorem dX1_worstSlot_12 : decode cX1_worstSlot 12 = .ok (.aload_n 0, 1) := by decide +kernel
theorem dX1_worstSlot_13 : decode cX1_worstSlot 13 = .ok (.getfield 28, 3) := by decide +kernel
theorem dX1_worstSlot_16 : decode cX1_worstSlot 16 = .ok (.iload_n 3, 1) := by decide +kernel
theorem dX1_worstSlot_17 : decode cX1_worstSlot 17 = .ok (.iaload, 1) := by decide +kernel
theorem dX1_worstSlot_18 : decode cX1_worstSlot 18 = .ok (.aload_n 0, 1) := by decide +kernel
theorem dX1_worstSlot_19 : decode cX1_worstSlot 19 = .ok (.getfield 28, 3) := by decide +kernel
theorem dX1_worstSlot_22 : decode cX1_worstSlot 22 = .ok (.iload_n 2, 1) := by decide +kernel
theorem dX1_worstSlot_23 : decode cX1_worstSlot 23 = .ok (.iaload, 1) := by decide +kernel
theorem dX1_worstSlot_24 : decode cX1_worstSlot 24 = .ok (.if_icmp .lt 5, 3) := by decide +kernel
theorem dX1_worstSlot_27 : decode cX1_worstSlot 27 = .ok (.iload_n 3, 1) := by decide +kernel
theorem dX1_worstSlot_28 : decode cX1_worstSlot 28 = .ok (.istore_n 2, 1) := by decide +kernel
theorem dX1_worstSlot_29 : decode cX1_worstSlot 29 = .ok (.iinc 3 1, 3) := by decide +kernel
theorem dX1_worstSlot_32 : decode cX1_worstSlot 32 = .ok (.goto (-28), 3) := by decide +kernel
theorem dX1_worstSlot_35 : decode cX1_worstSlot 35 = .ok (.iload_n 2, 1) := by decide +kernel
theorem dX1_worstSlot_36 : decode cX1_worstSlot 36 = .ok (.ireturn, 1) := by decide +kernel
theorem dX1_findRowTo_0 : decode cX1_findRowTo 0 = .ok (.aload_n 0, 1) := by decide +kernel
theorem dX1_findRowTo_1 : decode cX1_findRowTo 1 = .ok (.getfield 15, 3) := by decide +kernel
theorem dX1_findRowTo_4 : decode cX1_findRowTo 4 = .ok (.iload_n 1, 1) := by decide +kernel
theorem dX1_findRowTo_5 : decode cX1_findRowTo 5 = .ok (.imul, 1) := by decide +kernel
theorem dX1_findRowTo_6 : decode cX1_findRowTo 6 = .ok (.istore 4, 2) := by decide +kernel
theorem dX1_findRowTo_8 : decode cX1_findRowTo 8 = .ok (.iconst (-1), 1) := by decide +kernel
theorem dX1_findRowTo_9 : decode cX1_findRowTo 9 = .ok (.istore 5, 2) := by decide +kernel
theorem dX1_findRowTo_11 : decode cX1_findRowTo 11 = .ok (.iload_n 1, 1) := by decide +kernel
theorem dX1_findRowTo_12 : decode cX1_findRowTo 12 = .ok (.iconst 1, 1) := by decide +kernel
theorem dX1_findRowTo_13 : decode cX1_findRowTo 13 = .ok (.isub, 1) := by decide +kernel
theorem dX1_findRowTo_14 : decode cX1_findRowTo 14 = .ok (.istore 6, 2) := by decide +kernel
theorem dX1_findRowTo_16 : decode cX1_findRowTo 16 = .ok (.iload 6, 2) := by decide +kernel
theorem dX1_findRowTo_18 : decode cX1_findRowTo 18 = .ok (.ifCond .lt 159, 3) := by decide +kernel
theorem dX1_findRowTo_21 : decode cX1_findRowTo 21 = .ok (.aload_n 0, 1) := by decide +kernel
theorem dX1_findRowTo_22 : decode cX1_findRowTo 22 = .ok (.getfield 15, 3) := by decide +kernel
theorem dX1_findRowTo_25 : decode cX1_findRowTo 25 = .ok (.iload_n 1, 1) := by decide +kernel
theorem dX1_findRowTo_26 : decode cX1_findRowTo 26 = .ok (.iload 6, 2) := by decide +kernel
theorem dX1_findRowTo_28 : decode cX1_findRowTo 28 = .ok (.isub, 1) := by decide +kernel
theorem dX1_findRowTo_29 : decode cX1_findRowTo 29 = .ok (.iconst 1, 1) := by decide +kernel
theorem dX1_findRowTo_30 : decode cX1_findRowTo 30 = .ok (.isub, 1) := by decide +kernel
theorem dX1_findRowTo_31 : decode cX1_findRowTo 31 = .ok (.imul, 1) := by decide +kernel
theorem dX1_findRowTo_32 : decode cX1_findRowTo 32 = .ok (.istore 7, 2) := by decide +kernel
theorem dX1_findRowTo_34 : decode cX1_findRowTo 34 = .ok (.aload_n 0, 1) := by decide +kernel
theorem dX1_findRowTo_35 : decode cX1_findRowTo 35 = .ok (.aload_n 3, 1) := by decide +kernel
theorem dX1_findRowTo_36 : decode cX1_findRowTo 36 = .ok (.iload_n 1, 1) := by decide +kernel
theorem dX1_findRowTo_37 : decode cX1_findRowTo 37 = .ok (.iaload, 1) := by decide +kernel
theorem dX1_findRowTo_38 : decode cX1_findRowTo 38 = .ok (.aload_n 3, 1) := by decide +kernel
theorem dX1_findRowTo_39 : decode cX1_findRowTo 39 = .ok (.iload 6, 2) := by decide +kernel
theorem dX1_findRowTo_41 : decode cX1_findRowTo 41 = .ok (.iaload, 1) := by decide +kernel
theorem dX1_findRowTo_42 : decode cX1_findRowTo 42 = .ok (.isub, 1) := by decide +kernel
theorem dX1_findRowTo_43 : decode cX1_findRowTo 43 = .ok (.invokevirtual 115, 3) := by decide +kernel
theorem dX1_findRowTo_46 : decode cX1_findRowTo 46 = .ok (.istore 8, 2) := by decide +kernel
theorem dX1_findRowTo_48 : decode cX1_findRowTo 48 = .ok (.iconst 0, 1) := by decide +kernel
theorem dX1_findRowTo_49 : decode cX1_findRowTo 49 = .ok (.istore 9, 2) := by decide +kernel
theorem dX1_findRowTo_51 : decode cX1_findRowTo 51 = .ok (.iload 9, 2) := by decide +kernel
theorem dX1_findRowTo_53 : decode cX1_findRowTo 53 = .ok (.aload_n 0, 1) := by decide +kernel
theorem dX1_findRowTo_54 : decode cX1_findRowTo 54 = .ok (.getfield 18, 3) := by decide +kernel
theorem dX1_findRowTo_57 : decode cX1_findRowTo 57 = .ok (.iload 6, 2) := by decide +kernel
theorem dX1_findRowTo_59 : decode cX1_findRowTo 59 = .ok (.iaload, 1) := by decide +kernel
theorem dX1_findRowTo_60 : decode cX1_findRowTo 60 = .ok (.if_icmp .ge 111, 3) := by decide +kernel
theorem dX1_findRowTo_63 : decode cX1_findRowTo 63 = .ok (.iload 6, 2) := by decide +kernel
theorem dX1_findRowTo_65 : decode cX1_findRowTo 65 = .ok (.bipush 10, 2) := by decide +kernel
theorem dX1_findRowTo_67 : decode cX1_findRowTo 67 = .ok (.imul, 1) := by decide +kernel
theorem dX1_findRowTo_68 : decode cX1_findRowTo 68 = .ok (.iload 9, 2) := by decide +kernel
theorem dX1_findRowTo_70 : decode cX1_findRowTo 70 = .ok (.iadd, 1) := by decide +kernel
theorem dX1_findRowTo_71 : decode cX1_findRowTo 71 = .ok (.istore 10, 2) := by decide +kernel
theorem dX1_findRowTo_73 : decode cX1_findRowTo 73 = .ok (.aload_n 0, 1) := by decide +kernel
theorem dX1_findRowTo_74 : decode cX1_findRowTo 74 = .ok (.getfield 31, 3) := by decide +kernel
theorem dX1_findRowTo_77 : decode cX1_findRowTo 77 = .ok (.iload 10, 2) := by decide +kernel
theorem dX1_findRowTo_79 : decode cX1_findRowTo 79 = .ok (.iaload, 1) := by decide +kernel
theorem dX1_findRowTo_80 : decode cX1_findRowTo 80 = .ok (.iload 7, 2) := by decide +kernel
theorem dX1_findRowTo_82 : decode cX1_findRowTo 82 = .ok (.iadd, 1) := by decide +kernel
theorem dX1_findRowTo_83 : decode cX1_findRowTo 83 = .ok (.istore 11, 2) := by decide +kernel
theorem dX1_findRowTo_85 : decode cX1_findRowTo 85 = .ok (.iload 11, 2) := by decide +kernel
theorem dX1_findRowTo_87 : decode cX1_findRowTo 87 = .ok (.iload 4, 2) := by decide +kernel
theorem dX1_findRowTo_89 : decode cX1_findRowTo 89 = .ok (.if_icmp .le 8, 3) := by decide +kernel
theorem dX1_findRowTo_92 : decode cX1_findRowTo 92 = .ok (.bipush (-4), 2) := by decide +kernel
theorem dX1_findRowTo_94 : decode cX1_findRowTo 94 = .ok (.goto 22, 3) := by decide +kernel
theorem dX1_findRowTo_97 : decode cX1_findRowTo 97 = .ok (.aload_n 0, 1) := by decide +kernel
theorem dX1_findRowTo_98 : decode cX1_findRowTo 98 = .ok (.aload_n 0, 1) := by decide +kernel
theorem dX1_findRowTo_99 : decode cX1_findRowTo 99 = .ok (.getfield 22, 3) := by decide +kernel
theorem dX1_findRowTo_102 : decode cX1_findRowTo 102 = .ok (.iload 10, 2) := by decide +kernel
theorem dX1_findRowTo_104 : decode cX1_findRowTo 104 = .ok (.iaload, 1) := by decide +kernel
theorem dX1_findRowTo_105 : decode cX1_findRowTo 105 = .ok (.aload_n 0, 1) := by decide +kernel
theorem dX1_findRowTo_106 : decode cX1_findRowTo 106 = .ok (.getfield 22, 3) := by decide +kernel
theorem dX1_findRowTo_109 : decode cX1_findRowTo 109 = .ok (.iload_n 2, 1) := by decide +kernel
theorem dX1_findRowTo_110 : decode cX1_findRowTo 110 = .ok (.iaload, 1) := by decide +kernel
theorem dX1_findRowTo_111 : decode cX1_findRowTo 111 = .ok (.iload 8, 2) := by decide +kernel
theorem dX1_findRowTo_113 : decode cX1_findRowTo 113 = .ok (.invokevirtual 118, 3) := by decide +kernel
theorem dX1_findRowTo_116 : decode cX1_findRowTo 116 = .ok (.istore 12, 2) := by decide +kernel
theorem dX1_findRowTo_118 : decode cX1_findRowTo 118 = .ok (.iload 12, 2) := by decide +kernel
theorem dX1_findRowTo_120 : decode cX1_findRowTo 120 = .ok (.ifCond .lt 45, 3) := by decide +kernel
theorem dX1_findRowTo_123 : decode cX1_findRowTo 123 = .ok (.iload 11, 2) := by decide +kernel
theorem dX1_findRowTo_125 : decode cX1_findRowTo 125 = .ok (.iload 12, 2) := by decide +kernel
theorem dX1_findRowTo_127 : decode cX1_findRowTo 127 = .ok (.iconst 4, 1) := by decide +kernel
theorem dX1_findRowTo_128 : decode cX1_findRowTo 128 = .ok (.idiv, 1) := by decide +kernel
theorem dX1_findRowTo_129 : decode cX1_findRowTo 129 = .ok (.iadd, 1) := by decide +kernel
theorem dX1_findRowTo_130 : decode cX1_findRowTo 130 = .ok (.istore 11, 2) := by decide +kernel
theorem dX1_findRowTo_132 : decode cX1_findRowTo 132 = .ok (.iload 11, 2) := by decide +kernel
theorem dX1_findRowTo_134 : decode cX1_findRowTo 134 = .ok (.iload 4, 2) := by decide +kernel
theorem dX1_findRowTo_136 : decode cX1_findRowTo 136 = .ok (.if_icmp .lt 21, 3) := by decide +kernel
theorem dX1_findRowTo_139 : decode cX1_findRowTo 139 = .ok (.iload 11, 2) := by decide +kernel
theorem dX1_findRowTo_141 : decode cX1_findRowTo 141 = .ok (.iload 4, 2) := by decide +kernel
theorem dX1_findRowTo_143 : decode cX1_findRowTo 143 = .ok (.if_icmp .ne 22, 3) := by decide +kernel
theorem dX1_findRowTo_146 : decode cX1_findRowTo 146 = .ok (.aload_n 0, 1) := by decide +kernel
theorem dX1_findRowTo_147 : decode cX1_findRowTo 147 = .ok (.iload 10, 2) := by decide +kernel
theorem dX1_findRowTo_149 : decode cX1_findRowTo 149 = .ok (.iload 5, 2) := by decide +kernel
theorem dX1_findRowTo_151 : decode cX1_findRowTo 151 = .ok (.invokevirtual 121, 3) := by decide +kernel
theorem dX1_findRowTo_154 : decode cX1_findRowTo 154 = .ok (.ifCond .eq 11, 3) := by decide +kernel
theorem dX1_findRowTo_157 : decode cX1_findRowTo 157 = .ok (.iload 11, 2) := by decide +kernel
theorem dX1_findRowTo_159 : decode cX1_findRowTo 159 = .ok (.istore 4, 2) := by decide +kernel
theorem dX1_findRowTo_161 : decode cX1_findRowTo 161 = .ok (.iload 10, 2) := by decide +kernel
theorem dX1_findRowTo_163 : decode cX1_findRowTo 163 = .ok (.istore 5, 2) := by decide +kernel
theorem dX1_findRowTo_165 : decode cX1_findRowTo 165 = .ok (.iinc 9 1, 3) := by decide +kernel
theorem dX1_findRowTo_168 : decode cX1_findRowTo 168 = .ok (.goto (-117), 3) := by decide +kernel
theorem dX1_findRowTo_171 : decode cX1_findRowTo 171 = .ok (.iinc 6 (-1), 3) := by decide +kernel
theorem dX1_findRowTo_174 : decode cX1_findRowTo 174 = .ok (.goto (-158), 3) := by decide +kernel
theorem dX1_findRowTo_177 : decode cX1_findRowTo 177 = .ok (.aload_n 0, 1) := by decide +kernel
theorem dX1_findRowTo_178 : decode cX1_findRowTo 178 = .ok (.getfield 31, 3) := by decide +kernel
theorem dX1_findRowTo_181 : decode cX1_findRowTo 181 = .ok (.iload_n 2, 1) := by decide +kernel
theorem dX1_findRowTo_182 : decode cX1_findRowTo 182 = .ok (.iload 4, 2) := by decide +kernel
theorem dX1_findRowTo_184 : decode cX1_findRowTo 184 = .ok (.aload_n 0, 1) := by decide +kernel
theorem dX1_findRowTo_185 : decode cX1_findRowTo 185 = .ok (.getfield 28, 3) := by decide +kernel
theorem dX1_findRowTo_188 : decode cX1_findRowTo 188 = .ok (.iload_n 2, 1) := by decide +kernel
theorem dX1_findRowTo_189 : decode cX1_findRowTo 189 = .ok (.iaload, 1) := by decide +kernel
theorem dX1_findRowTo_190 : decode cX1_findRowTo 190 = .ok (.iadd, 1) := by decide +kernel
theorem dX1_findRowTo_191 : decode cX1_findRowTo 191 = .ok (.iastore, 1) := by decide +kernel
theorem dX1_findRowTo_192 : decode cX1_findRowTo 192 = .ok (.aload_n 0, 1) := by decide +kernel
theorem dX1_findRowTo_193 : decode cX1_findRowTo 193 = .ok (.getfield 34, 3) := by decide +kernel
theorem dX1_findRowTo_196 : decode cX1_findRowTo 196 = .ok (.iload_n 2, 1) := by decide +kernel
theorem dX1_findRowTo_197 : decode cX1_findRowTo 197 = .ok (.iload 5, 2) := by decide +kernel
theorem dX1_findRowTo_199 : decode cX1_findRowTo 199 = .ok (.iastore, 1) := by decide +kernel
theorem dX1_findRowTo_200 : decode cX1_findRowTo 200 = .ok (.return_, 1) := by decide +kernel
theorem dX1_longestLeg_0 : decode cX1_longestLeg 0 = .ok (.aload_n 0, 1) := by decide +kernel
theorem dX1_longestLeg_1 : decode cX1_longestLeg 1 = .ok (.getfield 9, 3) := by decide +kernel
theorem dX1_longestLeg_4 : decode cX1_longestLeg 4 = .ok (.iconst 4, 1) := by decide +kernel
theorem dX1_longestLeg_5 : decode cX1_longestLeg 5 = .ok (.imul, 1) := by decide +kernel
theorem dX1_longestLeg_6 : decode cX1_longestLeg 6 = .ok (.iload_n 1, 1) := by decide +kernel
theorem dX1_longestLeg_7 : decode cX1_longestLeg 7 = .ok (.imul, 1) := by decide +kernel
theorem dX1_longestLeg_8 : decode cX1_longestLeg 8 = .ok (.ireturn, 1) := by decide +kernel
theorem dX1_legLength_0 : decode cX1_legLength 0 = .ok (.aload_n 0, 1) := by decide +kernel
theorem dX1_legLength_1 : decode cX1_legLength 1 = .ok (.getfield 47, 3) := by decide +kernel
theorem dX1_legLength_4 : decode cX1_legLength 4 = .ok (.iload_n 1, 1) := by decide +kernel
theorem dX1_legLength_5 : decode cX1_legLength 5 = .ok (.iload_n 2, 1) := by decide +kernel
theorem dX1_legLength_6 : decode cX1_legLength 6 = .ok (.invokevirtual 125, 3) := by decide +kernel
theorem dX1_legLength_9 : decode cX1_legLength 9 = .ok (.istore 4, 2) := by decide +kernel
theorem dX1_legLength_11 : decode cX1_legLength 11 = .ok (.iload 4, 2) := by decide +kernel
theorem dX1_legLength_13 : decode cX1_legLength 13 = .ok (.ldc 131, 2) := by decide +kernel
theorem dX1_legLength_15 : decode cX1_legLength 15 = .ok (.if_icmp .eq 13, 3) := by decide +kernel
theorem dX1_legLength_18 : decode cX1_legLength 18 = .ok (.iload 4, 2) := by decide +kernel
theorem dX1_legLength_20 : decode cX1_legLength 20 = .ok (.sipush 10000, 3) := by decide +kernel
theorem dX1_legLength_23 : decode cX1_legLength 23 = .ok (.idiv, 1) := by decide +kernel
theorem dX1_legLength_24 : decode cX1_legLength 24 = .ok (.iload_n 3, 1) := by decide +kernel
theorem dX1_legLength_25 : decode cX1_legLength 25 = .ok (.if_icmp .le 8, 3) := by decide +kernel
theorem dX1_legLength_28 : decode cX1_legLength 28 = .ok (.bipush (-4), 2) := by decide +kernel
theorem dX1_legLength_30 : decode cX1_legLength 30 = .ok (.goto 9, 3) := by decide +kernel
theorem dX1_legLength_33 : decode cX1_legLength 33 = .ok (.iload 4, 2) := by decide +kernel
theorem dX1_legLength_35 : decode cX1_legLength 35 = .ok (.sipush 10000, 3) := by decide +kernel
theorem dX1_legLength_38 : decode cX1_legLength 38 = .ok (.idiv, 1) := by decide +kernel
theorem dX1_legLength_39 : decode cX1_legLength 39 = .ok (.ireturn, 1) := by decide +kernel
theorem dX1_chooseLeast_0 : decode cX1_chooseLeast 0 = .ok (.iconst (-1), 1) := by decide +kernel
theorem dX1_chooseLeast_1 : decode cX1_chooseLeast 1 = .ok (.istore_n 1, 1) := by decide +kernel
theorem dX1_chooseLeast_2 : decode cX1_chooseLeast 2 = .ok (.aload_n 0, 1) := by decide +kernel
theorem dX1_chooseLeast_3 : decode cX1_chooseLeast 3 = .ok (.aload_n 0, 1) := by decide +kernel
theorem dX1_chooseLeast_4 : decode cX1_chooseLeast 4 = .ok (.iconst (-1), 1) := by decide +kernel
theorem dX1_chooseLeast_5 : decode cX1_chooseLeast 5 = .ok (.invokevirtual 132, 3) := by decide +kernel
theorem dX1_chooseLeast_8 : decode cX1_chooseLeast 8 = .ok (.putfield 82, 3) := by decide +kernel
theorem dX1_chooseLeast_11 : decode cX1_chooseLeast 11 = .ok (.iconst 0, 1) := by decide +kernel
theorem dX1_chooseLeast_12 : decode cX1_chooseLeast 12 = .ok (.istore_n 2, 1) := by decide +kernel
theorem dX1_chooseLeast_13 : decode cX1_chooseLeast 13 = .ok (.iload_n 2, 1) := by decide +kernel
theorem dX1_chooseLeast_14 : decode cX1_chooseLeast 14 = .ok (.aload_n 0, 1) := by decide +kernel
theorem dX1_chooseLeast_15 : decode cX1_chooseLeast 15 = .ok (.getfield 64, 3) := by decide +kernel
theorem dX1_chooseLeast_18 : decode cX1_chooseLeast 18 = .ok (.if_icmp .ge 80, 3) := by decide +kernel
theorem dX1_chooseLeast_21 : decode cX1_chooseLeast 21 = .ok (.iconst 0, 1) := by decide +kernel
theorem dX1_chooseLeast_22 : decode cX1_chooseLeast 22 = .ok (.istore_n 3, 1) := by decide +kernel
theorem dX1_chooseLeast_23 : decode cX1_chooseLeast 23 = .ok (.iload_n 3, 1) := by decide +kernel
theorem dX1_chooseLeast_24 : decode cX1_chooseLeast 24 = .ok (.aload_n 0, 1) := by decide +kernel
theorem dX1_chooseLeast_25 : decode cX1_chooseLeast 25 = .ok (.getfield 18, 3) := by decide +kernel
theorem dX1_chooseLeast_28 : decode cX1_chooseLeast 28 = .ok (.iload_n 2, 1) := by decide +kernel
theorem dX1_chooseLeast_29 : decode cX1_chooseLeast 29 = .ok (.iaload, 1) := by decide +kernel
theorem dX1_chooseLeast_30 : decode cX1_chooseLeast 30 = .ok (.if_icmp .ge 62, 3) := by decide +kernel
theorem dX1_chooseLeast_33 : decode cX1_chooseLeast 33 = .ok (.iload_n 2, 1) := by decide +kernel
theorem dX1_chooseLeast_34 : decode cX1_chooseLeast 34 = .ok (.bipush 10, 2) := by decide +kernel
theorem dX1_chooseLeast_36 : decode cX1_chooseLeast 36 = .ok (.imul, 1) := by decide +kernel
theorem dX1_chooseLeast_37 : decode cX1_chooseLeast 37 = .ok (.iload_n 3, 1) := by decide +kernel
theorem dX1_chooseLeast_38 : decode cX1_chooseLeast 38 = .ok (.iadd, 1) := by decide +kernel
theorem dX1_chooseLeast_39 : decode cX1_chooseLeast 39 = .ok (.istore 4, 2) := by decide +kernel
theorem dX1_chooseLeast_41 : decode cX1_chooseLeast 41 = .ok (.aload_n 0, 1) := by decide +kernel
theorem dX1_chooseLeast_42 : decode cX1_chooseLeast 42 = .ok (.iload 4, 2) := by decide +kernel
theorem dX1_chooseLeast_44 : decode cX1_chooseLeast 44 = .ok (.invokevirtual 132, 3) := by decide +kernel
theorem dX1_chooseLeast_47 : decode cX1_chooseLeast 47 = .ok (.istore 5, 2) := by decide +kernel
theorem dX1_chooseLeast_49 : decode cX1_chooseLeast 49 = .ok (.iload 5, 2) := by decide +kernel
theorem dX1_chooseLeast_51 : decode cX1_chooseLeast 51 = .ok (.aload_n 0, 1) := by decide +kernel
theorem dX1_chooseLeast_52 : decode cX1_chooseLeast 52 = .ok (.getfield 82, 3) := by decide +kernel
theorem dX1_chooseLeast_55 : decode cX1_chooseLeast 55 = .ok (.if_icmp .lt 22, 3) := by decide +kernel
theorem dX1_chooseLeast_58 : decode cX1_chooseLeast 58 = .ok (.iload 5, 2) := by decide +kernel
theorem dX1_chooseLeast_60 : decode cX1_chooseLeast 60 = .ok (.aload_n 0, 1) := by decide +kernel
theorem dX1_chooseLeast_61 : decode cX1_chooseLeast 61 = .ok (.getfield 82, 3) := by decide +kernel
theorem dX1_chooseLeast_64 : decode cX1_chooseLeast 64 = .ok (.if_icmp .ne 22, 3) := by decide +kernel
theorem dX1_chooseLeast_67 : decode cX1_chooseLeast 67 = .ok (.aload_n 0, 1) := by decide +kernel
theorem dX1_chooseLeast_68 : decode cX1_chooseLeast 68 = .ok (.iload 4, 2) := by decide +kernel
theorem dX1_chooseLeast_70 : decode cX1_chooseLeast 70 = .ok (.iload_n 1, 1) := by decide +kernel
theorem dX1_chooseLeast_71 : decode cX1_chooseLeast 71 = .ok (.invokevirtual 121, 3) := by decide +kernel
theorem dX1_chooseLeast_74 : decode cX1_chooseLeast 74 = .ok (.ifCond .eq 12, 3) := by decide +kernel
theorem dX1_chooseLeast_77 : decode cX1_chooseLeast 77 = .ok (.aload_n 0, 1) := by decide +kernel
theorem dX1_chooseLeast_78 : decode cX1_chooseLeast 78 = .ok (.iload 5, 2) := by decide +kernel
theorem dX1_chooseLeast_80 : decode cX1_chooseLeast 80 = .ok (.putfield 82, 3) := by decide +kernel
theorem dX1_chooseLeast_83 : decode cX1_chooseLeast 83 = .ok (.iload 4, 2) := by decide +kernel
theorem dX1_chooseLeast_85 : decode cX1_chooseLeast 85 = .ok (.istore_n 1, 1) := by decide +kernel
theorem dX1_chooseLeast_86 : decode cX1_chooseLeast 86 = .ok (.iinc 3 1, 3) := by decide +kernel
theorem dX1_chooseLeast_89 : decode cX1_chooseLeast 89 = .ok (.goto (-66), 3) := by decide +kernel
theorem dX1_chooseLeast_92 : decode cX1_chooseLeast 92 = .ok (.iinc 2 1, 3) := by decide +kernel
theorem dX1_chooseLeast_95 : decode cX1_chooseLeast 95 = .ok (.goto (-82), 3) := by decide +kernel
theorem dX1_chooseLeast_98 : decode cX1_chooseLeast 98 = .ok (.aload_n 0, 1) := by decide +kernel
theorem dX1_chooseLeast_99 : decode cX1_chooseLeast 99 = .ok (.iload_n 1, 1) := by decide +kernel
theorem dX1_chooseLeast_100 : decode cX1_chooseLeast 100 = .ok (.aload_n 0, 1) := by decide +kernel
theorem dX1_chooseLeast_101 : decode cX1_chooseLeast 101 = .ok (.getfield 25, 3) := by decide +kernel
theorem dX1_chooseLeast_104 : decode cX1_chooseLeast 104 = .ok (.invokevirtual 135, 3) := by decide +kernel
theorem dX1_chooseLeast_107 : decode cX1_chooseLeast 107 = .ok (.return_, 1) := by decide +kernel
theorem dX1_costOfEnd_0 : decode cX1_costOfEnd 0 = .ok (.iload_n 1, 1) := by decide +kernel
theorem dX1_costOfEnd_1 : decode cX1_costOfEnd 1 = .ok (.iconst (-1), 1) := by decide +kernel
theorem dX1_costOfEnd_2 : decode cX1_costOfEnd 2 = .ok (.if_icmp .ne 15, 3) := by decide +kernel
theorem dX1_costOfEnd_5 : decode cX1_costOfEnd 5 = .ok (.aload_n 0, 1) := by decide +kernel
theorem dX1_costOfEnd_6 : decode cX1_costOfEnd 6 = .ok (.getfield 15, 3) := by decide +kernel
theorem dX1_costOfEnd_9 : decode cX1_costOfEnd 9 = .ok (.aload_n 0, 1) := by decide +kernel
theorem dX1_costOfEnd_10 : decode cX1_costOfEnd 10 = .ok (.getfield 64, 3) := by decide +kernel
theorem dX1_costOfEnd_13 : decode cX1_costOfEnd 13 = .ok (.imul, 1) := by decide +kernel
theorem dX1_costOfEnd_14 : decode cX1_costOfEnd 14 = .ok (.goto 26, 3) := by decide +kernel
theorem dX1_costOfEnd_17 : decode cX1_costOfEnd 17 = .ok (.aload_n 0, 1) := by decide +kernel
theorem dX1_costOfEnd_18 : decode cX1_costOfEnd 18 = .ok (.getfield 31, 3) := by decide +kernel
theorem dX1_costOfEnd_21 : decode cX1_costOfEnd 21 = .ok (.iload_n 1, 1) := by decide +kernel
theorem dX1_costOfEnd_22 : decode cX1_costOfEnd 22 = .ok (.iaload, 1) := by decide +kernel
theorem dX1_costOfEnd_23 : decode cX1_costOfEnd 23 = .ok (.aload_n 0, 1) := by decide +kernel
theorem dX1_costOfEnd_24 : decode cX1_costOfEnd 24 = .ok (.getfield 15, 3) := by decide +kernel
theorem dX1_costOfEnd_27 : decode cX1_costOfEnd 27 = .ok (.aload_n 0, 1) := by decide +kernel
theorem dX1_costOfEnd_28 : decode cX1_costOfEnd 28 = .ok (.getfield 64, 3) := by decide +kernel
theorem dX1_costOfEnd_31 : decode cX1_costOfEnd 31 = .ok (.iconst 1, 1) := by decide +kernel
theorem dX1_costOfEnd_32 : decode cX1_costOfEnd 32 = .ok (.isub, 1) := by decide +kernel
theorem dX1_costOfEnd_33 : decode cX1_costOfEnd 33 = .ok (.iload_n 1, 1) := by decide +kernel
theorem dX1_costOfEnd_34 : decode cX1_costOfEnd 34 = .ok (.bipush 10, 2) := by decide +kernel
theorem dX1_costOfEnd_36 : decode cX1_costOfEnd 36 = .ok (.idiv, 1) := by decide +kernel
theorem dX1_costOfEnd_37 : decode cX1_costOfEnd 37 = .ok (.isub, 1) := by decide +kernel
theorem dX1_costOfEnd_38 : decode cX1_costOfEnd 38 = .ok (.imul, 1) := by decide +kernel
theorem dX1_costOfEnd_39 : decode cX1_costOfEnd 39 = .ok (.iadd, 1) := by decide +kernel
theorem dX1_costOfEnd_40 : decode cX1_costOfEnd 40 = .ok (.ireturn, 1) := by decide +kernel
theorem dX1_writeRow_0 : decode cX1_writeRow 0 = .ok (.iconst 0, 1) := by decide +kernel
theorem dX1_writeRow_1 : decode cX1_writeRow 1 = .ok (.istore_n 3, 1) := by decide +kernel
theorem dX1_writeRow_2 : decode cX1_writeRow 2 = .ok (.iload_n 3, 1) := by decide +kernel
theorem dX1_writeRow_3 : decode cX1_writeRow 3 = .ok (.aload_n 0, 1) := by decide +kernel
theorem dX1_writeRow_4 : decode cX1_writeRow 4 = .ok (.getfield 64, 3) := by decide +kernel
theorem dX1_writeRow_7 : decode cX1_writeRow 7 = .ok (.if_icmp .ge 14, 3) := by decide +kernel
theorem dX1_writeRow_10 : decode cX1_writeRow 10 = .ok (.aload_n 2, 1) := by decide +kernel
theorem dX1_writeRow_11 : decode cX1_writeRow 11 = .ok (.iload_n 3, 1) := by decide +kernel
theorem dX1_writeRow_12 : decode cX1_writeRow 12 = .ok (.bipush (-5), 2) := by decide +kernel
theorem dX1_writeRow_14 : decode cX1_writeRow 14 = .ok (.iastore, 1) := by decide +kernel
theorem dX1_writeRow_15 : decode cX1_writeRow 15 = .ok (.iinc 3 1, 3) := by decide +kernel
theorem dX1_writeRow_18 : decode cX1_writeRow 18 = .ok (.goto (-16), 3) := by decide +kernel
theorem dX1_writeRow_21 : decode cX1_writeRow 21 = .ok (.iload_n 1, 1) := by decide +kernel
theorem dX1_writeRow_22 : decode cX1_writeRow 22 = .ok (.istore_n 3, 1) := by decide +kernel
theorem dX1_writeRow_23 : decode cX1_writeRow 23 = .ok (.iconst 0, 1) := by decide +kernel
theorem dX1_writeRow_24 : decode cX1_writeRow 24 = .ok (.istore 4, 2) := by decide +kernel
theorem dX1_writeRow_26 : decode cX1_writeRow 26 = .ok (.iload 4, 2) := by decide +kernel
theorem dX1_writeRow_28 : decode cX1_writeRow 28 = .ok (.aload_n 0, 1) := by decide +kernel
theorem dX1_writeRow_29 : decode cX1_writeRow 29 = .ok (.getfield 64, 3) := by decide +kernel
theorem dX1_writeRow_32 : decode cX1_writeRow 32 = .ok (.if_icmp .ge 33, 3) := by decide +kernel
theorem dX1_writeRow_35 : decode cX1_writeRow 35 = .ok (.iload_n 3, 1) := by decide +kernel
theorem dX1_writeRow_36 : decode cX1_writeRow 36 = .ok (.iconst (-1), 1) := by decide +kernel
theorem dX1_writeRow_37 : decode cX1_writeRow 37 = .ok (.if_icmp .eq 28, 3) := by decide +kernel
theorem dX1_writeRow_40 : decode cX1_writeRow 40 = .ok (.aload_n 2, 1) := by decide +kernel
theorem dX1_writeRow_41 : decode cX1_writeRow 41 = .ok (.iload_n 3, 1) := by decide +kernel
theorem dX1_writeRow_42 : decode cX1_writeRow 42 = .ok (.bipush 10, 2) := by decide +kernel
theorem dX1_writeRow_44 : decode cX1_writeRow 44 = .ok (.idiv, 1) := by decide +kernel
theorem dX1_writeRow_45 : decode cX1_writeRow 45 = .ok (.aload_n 0, 1) := by decide +kernel
theorem dX1_writeRow_46 : decode cX1_writeRow 46 = .ok (.getfield 22, 3) := by decide +kernel
theorem dX1_writeRow_49 : decode cX1_writeRow 49 = .ok (.iload_n 3, 1) := by decide +kernel
theorem dX1_writeRow_50 : decode cX1_writeRow 50 = .ok (.iaload, 1) := by decide +kernel
theorem dX1_writeRow_51 : decode cX1_writeRow 51 = .ok (.iastore, 1) := by decide +kernel
theorem dX1_writeRow_52 : decode cX1_writeRow 52 = .ok (.aload_n 0, 1) := by decide +kernel
theorem dX1_writeRow_53 : decode cX1_writeRow 53 = .ok (.getfield 34, 3) := by decide +kernel
theorem dX1_writeRow_56 : decode cX1_writeRow 56 = .ok (.iload_n 3, 1) := by decide +kernel
theorem dX1_writeRow_57 : decode cX1_writeRow 57 = .ok (.iaload, 1) := by decide +kernel
theorem dX1_writeRow_58 : decode cX1_writeRow 58 = .ok (.istore_n 3, 1) := by decide +kernel
theorem dX1_writeRow_59 : decode cX1_writeRow 59 = .ok (.iinc 4 1, 3) := by decide +kernel
theorem dX1_writeRow_62 : decode cX1_writeRow 62 = .ok (.goto (-36), 3) := by decide +kernel
theorem dX1_writeRow_65 : decode cX1_writeRow 65 = .ok (.return_, 1) := by decide +kernel
theorem dX1_isRowFirst_0 : decode cX1_isRowFirst 0 = .ok (.aload_n 0, 1) := by decide +kernel
theorem dX1_isRowFirst_1 : decode cX1_isRowFirst 1 = .ok (.iload_n 1, 1) := by decide +kernel
theorem dX1_isRowFirst_2 : decode cX1_isRowFirst 2 = .ok (.aload_n 0, 1) := by decide +kernel
theorem dX1_isRowFirst_3 : decode cX1_isRowFirst 3 = .ok (.getfield 37, 3) := by decide +kernel
theorem dX1_isRowFirst_6 : decode cX1_isRowFirst 6 = .ok (.invokevirtual 135, 3) := by decide +kernel
theorem dX1_isRowFirst_9 : decode cX1_isRowFirst 9 = .ok (.aload_n 0, 1) := by decide +kernel
theorem dX1_isRowFirst_10 : decode cX1_isRowFirst 10 = .ok (.iload_n 2, 1) := by decide +kernel
theorem dX1_isRowFirst_11 : decode cX1_isRowFirst 11 = .ok (.aload_n 0, 1) := by decide +kernel
theorem dX1_isRowFirst_12 : decode cX1_isRowFirst 12 = .ok (.getfield 40, 3) := by decide +kernel
theorem dX1_isRowFirst_15 : decode cX1_isRowFirst 15 = .ok (.invokevirtual 135, 3) := by decide +kernel
theorem dX1_isRowFirst_18 : decode cX1_isRowFirst 18 = .ok (.aload_n 0, 1) := by decide +kernel
theorem dX1_isRowFirst_19 : decode cX1_isRowFirst 19 = .ok (.aload_n 0, 1) := by decide +kernel
theorem dX1_isRowFirst_20 : decode cX1_isRowFirst 20 = .ok (.getfield 37, 3) := by decide +kernel
theorem dX1_isRowFirst_23 : decode cX1_isRowFirst 23 = .ok (.aload_n 0, 1) := by decide +kernel
theorem dX1_isRowFirst_24 : decode cX1_isRowFirst 24 = .ok (.getfield 40, 3) := by decide +kernel
theorem dX1_isRowFirst_27 : decode cX1_isRowFirst 27 = .ok (.invokevirtual 139, 3) := by decide +kernel
theorem dX1_isRowFirst_30 : decode cX1_isRowFirst 30 = .ok (.istore_n 3, 1) := by decide +kernel
theorem dX1_isRowFirst_31 : decode cX1_isRowFirst 31 = .ok (.iload_n 3, 1) := by decide +kernel
theorem dX1_isRowFirst_32 : decode cX1_isRowFirst 32 = .ok (.aload_n 0, 1) := by decide +kernel
theorem dX1_isRowFirst_33 : decode cX1_isRowFirst 33 = .ok (.getfield 64, 3) := by decide +kernel
theorem dX1_isRowFirst_36 : decode cX1_isRowFirst 36 = .ok (.if_icmp .ge 14, 3) := by decide +kernel
theorem dX1_isRowFirst_39 : decode cX1_isRowFirst 39 = .ok (.aload_n 0, 1) := by decide +kernel
theorem dX1_isRowFirst_40 : decode cX1_isRowFirst 40 = .ok (.getfield 37, 3) := by decide +kernel
theorem dX1_isRowFirst_43 : decode cX1_isRowFirst 43 = .ok (.iload_n 3, 1) := by decide +kernel
theorem dX1_isRowFirst_44 : decode cX1_isRowFirst 44 = .ok (.iaload, 1) := by decide +kernel
theorem dX1_isRowFirst_45 : decode cX1_isRowFirst 45 = .ok (.bipush (-5), 2) := by decide +kernel
theorem dX1_isRowFirst_47 : decode cX1_isRowFirst 47 = .ok (.if_icmp .ne 5, 3) := by decide +kernel
theorem dX1_isRowFirst_50 : decode cX1_isRowFirst 50 = .ok (.iconst 0, 1) := by decide +kernel
theorem dX1_isRowFirst_51 : decode cX1_isRowFirst 51 = .ok (.ireturn, 1) := by decide +kernel
theorem dX1_isRowFirst_52 : decode cX1_isRowFirst 52 = .ok (.aload_n 0, 1) := by decide +kernel
theorem dX1_isRowFirst_53 : decode cX1_isRowFirst 53 = .ok (.getfield 40, 3) := by decide +kernel
theorem dX1_isRowFirst_56 : decode cX1_isRowFirst 56 = .ok (.iload_n 3, 1) := by decide +kernel
theorem dX1_isRowFirst_57 : decode cX1_isRowFirst 57 = .ok (.iaload, 1) := by decide +kernel
theorem dX1_isRowFirst_58 : decode cX1_isRowFirst 58 = .ok (.bipush (-5), 2) := by decide +kernel
theorem dX1_isRowFirst_60 : decode cX1_isRowFirst 60 = .ok (.if_icmp .eq 18, 3) := by decide +kernel
theorem dX1_isRowFirst_63 : decode cX1_isRowFirst 63 = .ok (.aload_n 0, 1) := by decide +kernel
theorem dX1_isRowFirst_64 : decode cX1_isRowFirst 64 = .ok (.getfield 37, 3) := by decide +kernel
theorem dX1_isRowFirst_67 : decode cX1_isRowFirst 67 = .ok (.iload_n 3, 1) := by decide +kernel
theorem dX1_isRowFirst_68 : decode cX1_isRowFirst 68 = .ok (.iaload, 1) := by decide +kernel
theorem dX1_isRowFirst_69 : decode cX1_isRowFirst 69 = .ok (.aload_n 0, 1) := by decide +kernel
theorem dX1_isRowFirst_70 : decode cX1_isRowFirst 70 = .ok (.getfield 40, 3) := by decide +kernel
theorem dX1_isRowFirst_73 : decode cX1_isRowFirst 73 = .ok (.iload_n 3, 1) := by decide +kernel
theorem dX1_isRowFirst_74 : decode cX1_isRowFirst 74 = .ok (.iaload, 1) := by decide +kernel
theorem dX1_isRowFirst_75 : decode cX1_isRowFirst 75 = .ok (.if_icmp .ge 7, 3) := by decide +kernel
theorem dX1_isRowFirst_78 : decode cX1_isRowFirst 78 = .ok (.iconst 1, 1) := by decide +kernel
theorem dX1_isRowFirst_79 : decode cX1_isRowFirst 79 = .ok (.goto 4, 3) := by decide +kernel
theorem dX1_isRowFirst_82 : decode cX1_isRowFirst 82 = .ok (.iconst 0, 1) := by decide +kernel
theorem dX1_isRowFirst_83 : decode cX1_isRowFirst 83 = .ok (.ireturn, 1) := by decide +kernel
theorem dX1_countSame_0 : decode cX1_countSame 0 = .ok (.iconst 0, 1) := by decide +kernel
theorem dX1_countSame_1 : decode cX1_countSame 1 = .ok (.istore_n 3, 1) := by decide +kernel
theorem dX1_countSame_2 : decode cX1_countSame 2 = .ok (.iload_n 3, 1) := by decide +kernel
theorem dX1_countSame_3 : decode cX1_countSame 3 = .ok (.aload_n 0, 1) := by decide +kernel
theorem dX1_countSame_4 : decode cX1_countSame 4 = .ok (.getfield 64, 3) := by decide +kernel
theorem dX1_countSame_7 : decode cX1_countSame 7 = .ok (.if_icmp .ge 18, 3) := by decide +kernel
theorem dX1_countSame_10 : decode cX1_countSame 10 = .ok (.aload_n 1, 1) := by decide +kernel
theorem dX1_countSame_11 : decode cX1_countSame 11 = .ok (.iload_n 3, 1) := by decide +kernel
theorem dX1_countSame_12 : decode cX1_countSame 12 = .ok (.iaload, 1) := by decide +kernel
theorem dX1_countSame_13 : decode cX1_countSame 13 = .ok (.aload_n 2, 1) := by decide +kernel
theorem dX1_countSame_14 : decode cX1_countSame 14 = .ok (.iload_n 3, 1) := by decide +kernel
theorem dX1_countSame_15 : decode cX1_countSame 15 = .ok (.iaload, 1) := by decide +kernel
theorem dX1_countSame_16 : decode cX1_countSame 16 = .ok (.if_icmp .ne 9, 3) := by decide +kernel
theorem dX1_countSame_19 : decode cX1_countSame 19 = .ok (.iinc 3 1, 3) := by decide +kernel
theorem dX1_countSame_22 : decode cX1_countSame 22 = .ok (.goto (-20), 3) := by decide +kernel
theorem dX1_countSame_25 : decode cX1_countSame 25 = .ok (.iload_n 3, 1) := by decide +kernel
theorem dX1_countSame_26 : decode cX1_countSame 26 = .ok (.ireturn, 1) := by decide +kernel
theorem dX1_sameInEnds_0 : decode cX1_sameInEnds 0 = .ok (.aload_n 0, 1) := by decide +kernel
theorem dX1_sameInEnds_1 : decode cX1_sameInEnds 1 = .ok (.iconst (-1), 1) := by decide +kernel
theorem dX1_sameInEnds_2 : decode cX1_sameInEnds 2 = .ok (.invokevirtual 132, 3) := by decide +kernel
theorem dX1_sameInEnds_5 : decode cX1_sameInEnds 5 = .ok (.iload_n 1, 1) := by decide +kernel
theorem dX1_sameInEnds_6 : decode cX1_sameInEnds 6 = .ok (.if_icmp .gt 11, 3) := by decide +kernel
theorem dX1_sameInEnds_9 : decode cX1_sameInEnds 9 = .ok (.aload_n 0, 1) := by decide +kernel
theorem dX1_sameInEnds_10 : decode cX1_sameInEnds 10 = .ok (.iconst (-1), 1) := by decide +kernel
theorem dX1_sameInEnds_11 : decode cX1_sameInEnds 11 = .ok (.invokevirtual 143, 3) := by decide +kernel
theorem dX1_sameInEnds_14 : decode cX1_sameInEnds 14 = .ok (.goto 7, 3) := by decide +kernel
theorem dX1_sameInEnds_17 : decode cX1_sameInEnds 17 = .ok (.aload_n 0, 1) := by decide +kernel
theorem dX1_sameInEnds_18 : decode cX1_sameInEnds 18 = .ok (.getfield 64, 3) := by decide +kernel
theorem dX1_sameInEnds_21 : decode cX1_sameInEnds 21 = .ok (.istore_n 2, 1) := by decide +kernel
theorem dX1_sameInEnds_22 : decode cX1_sameInEnds 22 = .ok (.iconst 0, 1) := by decide +kernel
theorem dX1_sameInEnds_23 : decode cX1_sameInEnds 23 = .ok (.istore_n 3, 1) := by decide +kernel
theorem dX1_sameInEnds_24 : decode cX1_sameInEnds 24 = .ok (.iload_n 3, 1) := by decide +kernel
theorem dX1_sameInEnds_25 : decode cX1_sameInEnds 25 = .ok (.aload_n 0, 1) := by decide +kernel
theorem dX1_sameInEnds_26 : decode cX1_sameInEnds 26 = .ok (.getfield 64, 3) := by decide +kernel
theorem dX1_sameInEnds_29 : decode cX1_sameInEnds 29 = .ok (.if_icmp .ge 59, 3) := by decide +kernel
theorem dX1_sameInEnds_32 : decode cX1_sameInEnds 32 = .ok (.iconst 0, 1) := by decide +kernel
theorem dX1_sameInEnds_33 : decode cX1_sameInEnds 33 = .ok (.istore 4, 2) := by decide +kernel
theorem dX1_sameInEnds_35 : decode cX1_sameInEnds 35 = .ok (.iload 4, 2) := by decide +kernel
theorem dX1_sameInEnds_37 : decode cX1_sameInEnds 37 = .ok (.aload_n 0, 1) := by decide +kernel
theorem dX1_sameInEnds_38 : decode cX1_sameInEnds 38 = .ok (.getfield 18, 3) := by decide +kernel
theorem dX1_sameInEnds_41 : decode cX1_sameInEnds 41 = .ok (.iload_n 3, 1) := by decide +kernel
theorem dX1_sameInEnds_42 : decode cX1_sameInEnds 42 = .ok (.iaload, 1) := by decide +kernel
theorem dX1_sameInEnds_43 : decode cX1_sameInEnds 43 = .ok (.if_icmp .ge 39, 3) := by decide +kernel
theorem dX1_sameInEnds_46 : decode cX1_sameInEnds 46 = .ok (.iload_n 3, 1) := by decide +kernel
theorem dX1_sameInEnds_47 : decode cX1_sameInEnds 47 = .ok (.bipush 10, 2) := by decide +kernel
theorem dX1_sameInEnds_49 : decode cX1_sameInEnds 49 = .ok (.imul, 1) := by decide +kernel
theorem dX1_sameInEnds_50 : decode cX1_sameInEnds 50 = .ok (.iload 4, 2) := by decide +kernel
theorem dX1_sameInEnds_52 : decode cX1_sameInEnds 52 = .ok (.iadd, 1) := by decide +kernel
theorem dX1_sameInEnds_53 : decode cX1_sameInEnds 53 = .ok (.istore 5, 2) := by decide +kernel
theorem dX1_sameInEnds_55 : decode cX1_sameInEnds 55 = .ok (.aload_n 0, 1) := by decide +kernel
theorem dX1_sameInEnds_56 : decode cX1_sameInEnds 56 = .ok (.iload 5, 2) := by decide +kernel
theorem dX1_sameInEnds_58 : decode cX1_sameInEnds 58 = .ok (.invokevirtual 132, 3) := by decide +kernel
theorem dX1_sameInEnds_61 : decode cX1_sameInEnds 61 = .ok (.iload_n 1, 1) := by decide +kernel
theorem dX1_sameInEnds_62 : decode cX1_sameInEnds 62 = .ok (.if_icmp .gt 14, 3) := by decide +kernel
theorem dX1_sameInEnds_65 : decode cX1_sameInEnds 65 = .ok (.iload_n 2, 1) := by decide +kernel
theorem dX1_sameInEnds_66 : decode cX1_sameInEnds 66 = .ok (.aload_n 0, 1) := by decide +kernel
theorem dX1_sameInEnds_67 : decode cX1_sameInEnds 67 = .ok (.iload 5, 2) := by decide +kernel
theorem dX1_sameInEnds_69 : decode cX1_sameInEnds 69 = .ok (.invokevirtual 143, 3) := by decide +kernel
theorem dX1_sameInEnds_72 : decode cX1_sameInEnds 72 = .ok (.invokestatic 146, 3) := by decide +kernel
theorem dX1_sameInEnds_75 : decode cX1_sameInEnds 75 = .ok (.istore_n 2, 1) := by decide +kernel
theorem dX1_sameInEnds_76 : decode cX1_sameInEnds 76 = .ok (.iinc 4 1, 3) := by decide +kernel
theorem dX1_sameInEnds_79 : decode cX1_sameInEnds 79 = .ok (.goto (-44), 3) := by decide +kernel
theorem dX1_sameInEnds_82 : decode cX1_sameInEnds 82 = .ok (.iinc 3 1, 3) := by decide +kernel
theorem dX1_sameInEnds_85 : decode cX1_sameInEnds 85 = .ok (.goto (-61), 3) := by decide +kernel
theorem dX1_sameInEnds_88 : decode cX1_sameInEnds 88 = .ok (.iload_n 2, 1) := by decide +kernel
theorem dX1_sameInEnds_89 : decode cX1_sameInEnds 89 = .ok (.ireturn, 1) := by decide +kernel
theorem dX1_sameInEnd_0 : decode cX1_sameInEnd 0 = .ok (.aload_n 0, 1) := by decide +kernel
theorem dX1_sameInEnd_1 : decode cX1_sameInEnd 1 = .ok (.iload_n 1, 1) := by decide +kernel
theorem dX1_sameInEnd_2 : decode cX1_sameInEnd 2 = .ok (.aload_n 0, 1) := by decide +kernel
theorem dX1_sameInEnd_3 : decode cX1_sameInEnd 3 = .ok (.getfield 37, 3) := by decide +kernel
theorem dX1_sameInEnd_6 : decode cX1_sameInEnd 6 = .ok (.invokevirtual 135, 3) := by decide +kernel
theorem dX1_sameInEnd_9 : decode cX1_sameInEnd 9 = .ok (.aload_n 0, 1) := by decide +kernel
theorem dX1_sameInEnd_10 : decode cX1_sameInEnd 10 = .ok (.aload_n 0, 1) := by decide +kernel
theorem dX1_sameInEnd_11 : decode cX1_sameInEnd 11 = .ok (.getfield 37, 3) := by decide +kernel
theorem dX1_sameInEnd_14 : decode cX1_sameInEnd 14 = .ok (.aload_n 0, 1) := by decide +kernel
theorem dX1_sameInEnd_15 : decode cX1_sameInEnd 15 = .ok (.getfield 25, 3) := by decide +kernel
theorem dX1_sameInEnd_18 : decode cX1_sameInEnd 18 = .ok (.invokevirtual 139, 3) := by decide +kernel
theorem dX1_sameInEnd_21 : decode cX1_sameInEnd 21 = .ok (.ireturn, 1) := by decide +kernel
theorem dX1_fits_0 : decode cX1_fits 0 = .ok (.iconst 0, 1) := by decide +kernel
theorem dX1_fits_1 : decode cX1_fits 1 = .ok (.istore_n 2, 1) := by decide +kernel
theorem dX1_fits_2 : decode cX1_fits 2 = .ok (.iload_n 2, 1) := by decide +kernel
theorem dX1_fits_3 : decode cX1_fits 3 = .ok (.aload_n 0, 1) := by decide +kernel
theorem dX1_fits_4 : decode cX1_fits 4 = .ok (.getfield 64, 3) := by decide +kernel
theorem dX1_fits_7 : decode cX1_fits 7 = .ok (.if_icmp .ge 31, 3) := by decide +kernel
theorem dX1_fits_10 : decode cX1_fits 10 = .ok (.aload_n 1, 1) := by decide +kernel
theorem dX1_fits_11 : decode cX1_fits 11 = .ok (.iload_n 2, 1) := by decide +kernel
theorem dX1_fits_12 : decode cX1_fits 12 = .ok (.iaload, 1) := by decide +kernel
theorem dX1_fits_13 : decode cX1_fits 13 = .ok (.bipush (-5), 2) := by decide +kernel
theorem dX1_fits_15 : decode cX1_fits 15 = .ok (.if_icmp .eq 17, 3) := by decide +kernel
theorem dX1_fits_18 : decode cX1_fits 18 = .ok (.aload_n 0, 1) := by decide +kernel
theorem dX1_fits_19 : decode cX1_fits 19 = .ok (.iload_n 2, 1) := by decide +kernel
theorem dX1_fits_20 : decode cX1_fits 20 = .ok (.aload_n 1, 1) := by decide +kernel
theorem dX1_fits_21 : decode cX1_fits 21 = .ok (.iload_n 2, 1) := by decide +kernel
theorem dX1_fits_22 : decode cX1_fits 22 = .ok (.iaload, 1) := by decide +kernel
theorem dX1_fits_23 : decode cX1_fits 23 = .ok (.invokevirtual 151, 3) := by decide +kernel
theorem dX1_fits_26 : decode cX1_fits 26 = .ok (.iconst (-1), 1) := by decide +kernel
theorem dX1_fits_27 : decode cX1_fits 27 = .ok (.if_icmp .ne 5, 3) := by decide +kernel
theorem dX1_fits_30 : decode cX1_fits 30 = .ok (.iconst 0, 1) := by decide +kernel
theorem dX1_fits_31 : decode cX1_fits 31 = .ok (.ireturn, 1) := by decide +kernel
theorem dX1_fits_32 : decode cX1_fits 32 = .ok (.iinc 2 1, 3) := by decide +kernel
theorem dX1_fits_35 : decode cX1_fits 35 = .ok (.goto (-33), 3) := by decide +kernel
theorem dX1_fits_38 : decode cX1_fits 38 = .ok (.iconst 1, 1) := by decide +kernel
theorem dX1_fits_39 : decode cX1_fits 39 = .ok (.ireturn, 1) := by decide +kernel
theorem dX1_findSlot_0 : decode cX1_findSlot 0 = .ok (.iconst 0, 1) := by decide +kernel
theorem dX1_findSlot_1 : decode cX1_findSlot 1 = .ok (.istore_n 3, 1) := by decide +kernel
theorem dX1_findSlot_2 : decode cX1_findSlot 2 = .ok (.iload_n 3, 1) := by decide +kernel
theorem dX1_findSlot_3 : decode cX1_findSlot 3 = .ok (.aload_n 0, 1) := by decide +kernel
theorem dX1_findSlot_4 : decode cX1_findSlot 4 = .ok (.getfield 18, 3) := by decide +kernel
theorem dX1_findSlot_7 : decode cX1_findSlot 7 = .ok (.iload_n 1, 1) := by decide +kernel
theorem dX1_findSlot_8 : decode cX1_findSlot 8 = .ok (.iaload, 1) := by decide +kernel
theorem dX1_findSlot_9 : decode cX1_findSlot 9 = .ok (.if_icmp .ge 31, 3) := by decide +kernel
theorem dX1_findSlot_12 : decode cX1_findSlot 12 = .ok (.aload_n 0, 1) := by decide +kernel
theorem dX1_findSlot_13 : decode cX1_findSlot 13 = .ok (.getfield 22, 3) := by decide +kernel
theorem dX1_findSlot_16 : decode cX1_findSlot 16 = .ok (.iload_n 1, 1) := by decide +kernel
theorem dX1_findSlot_17 : decode cX1_findSlot 17 = .ok (.bipush 10, 2) := by decide +kernel
theorem dX1_findSlot_19 : decode cX1_findSlot 19 = .ok (.imul, 1) := by decide +kernel
theorem dX1_findSlot_20 : decode cX1_findSlot 20 = .ok (.iload_n 3, 1) := by decide +kernel
theorem dX1_findSlot_21 : decode cX1_findSlot 21 = .ok (.iadd, 1) := by decide +kernel
theorem dX1_findSlot_22 : decode cX1_findSlot 22 = .ok (.iaload, 1) := by decide +kernel
theorem dX1_findSlot_23 : decode cX1_findSlot 23 = .ok (.iload_n 2, 1) := by decide +kernel
theorem dX1_findSlot_24 : decode cX1_findSlot 24 = .ok (.if_icmp .ne 10, 3) := by decide +kernel
theorem dX1_findSlot_27 : decode cX1_findSlot 27 = .ok (.iload_n 1, 1) := by decide +kernel
theorem dX1_findSlot_28 : decode cX1_findSlot 28 = .ok (.bipush 10, 2) := by decide +kernel
theorem dX1_findSlot_30 : decode cX1_findSlot 30 = .ok (.imul, 1) := by decide +kernel
theorem dX1_findSlot_31 : decode cX1_findSlot 31 = .ok (.iload_n 3, 1) := by decide +kernel
theorem dX1_findSlot_32 : decode cX1_findSlot 32 = .ok (.iadd, 1) := by decide +kernel
theorem dX1_findSlot_33 : decode cX1_findSlot 33 = .ok (.ireturn, 1) := by decide +kernel
theorem dX1_findSlot_34 : decode cX1_findSlot 34 = .ok (.iinc 3 1, 3) := by decide +kernel
theorem dX1_findSlot_37 : decode cX1_findSlot 37 = .ok (.goto (-35), 3) := by decide +kernel
theorem dX1_findSlot_40 : decode cX1_findSlot 40 = .ok (.iconst (-1), 1) := by decide +kernel
theorem dX1_findSlot_41 : decode cX1_findSlot 41 = .ok (.ireturn, 1) := by decide +kernel
theorem dX1_costOfRow_0 : decode cX1_costOfRow 0 = .ok (.iconst 0, 1) := by decide +kernel
theorem dX1_costOfRow_1 : decode cX1_costOfRow 1 = .ok (.istore_n 2, 1) := by decide +kernel
theorem dX1_costOfRow_2 : decode cX1_costOfRow 2 = .ok (.iconst (-1), 1) := by decide +kernel
theorem dX1_costOfRow_3 : decode cX1_costOfRow 3 = .ok (.istore_n 3, 1) := by decide +kernel
theorem dX1_costOfRow_4 : decode cX1_costOfRow 4 = .ok (.iconst 0, 1) := by decide +kernel
theorem dX1_costOfRow_5 : decode cX1_costOfRow 5 = .ok (.istore 4, 2) := by decide +kernel
theorem dX1_costOfRow_7 : decode cX1_costOfRow 7 = .ok (.iload 4, 2) := by decide +kernel
theorem dX1_costOfRow_9 : decode cX1_costOfRow 9 = .ok (.aload_n 0, 1) := by decide +kernel
theorem dX1_costOfRow_10 : decode cX1_costOfRow 10 = .ok (.getfield 64, 3) := by decide +kernel
theorem dX1_costOfRow_13 : decode cX1_costOfRow 13 = .ok (.if_icmp .ge 94, 3) := by decide +kernel
theorem dX1_costOfRow_16 : decode cX1_costOfRow 16 = .ok (.aload_n 0, 1) := by decide +kernel
theorem dX1_costOfRow_17 : decode cX1_costOfRow 17 = .ok (.iload 4, 2) := by decide +kernel
theorem dX1_costOfRow_19 : decode cX1_costOfRow 19 = .ok (.aload_n 1, 1) := by decide +kernel
theorem dX1_costOfRow_20 : decode cX1_costOfRow 20 = .ok (.iload 4, 2) := by decide +kernel
theorem dX1_costOfRow_22 : decode cX1_costOfRow 22 = .ok (.iaload, 1) := by decide +kernel
theorem dX1_costOfRow_23 : decode cX1_costOfRow 23 = .ok (.invokevirtual 151, 3) := by decide +kernel
theorem dX1_costOfRow_26 : decode cX1_costOfRow 26 = .ok (.istore 5, 2) := by decide +kernel
theorem dX1_costOfRow_28 : decode cX1_costOfRow 28 = .ok (.iload 5, 2) := by decide +kernel
theorem dX1_costOfRow_30 : decode cX1_costOfRow 30 = .ok (.iconst (-1), 1) := by decide +kernel
theorem dX1_costOfRow_31 : decode cX1_costOfRow 31 = .ok (.if_icmp .ne 13, 3) := by decide +kernel
theorem dX1_costOfRow_34 : decode cX1_costOfRow 34 = .ok (.iload_n 2, 1) := by decide +kernel
theorem dX1_costOfRow_35 : decode cX1_costOfRow 35 = .ok (.aload_n 0, 1) := by decide +kernel
theorem dX1_costOfRow_36 : decode cX1_costOfRow 36 = .ok (.getfield 15, 3) := by decide +kernel
theorem dX1_costOfRow_39 : decode cX1_costOfRow 39 = .ok (.iadd, 1) := by decide +kernel
theorem dX1_costOfRow_40 : decode cX1_costOfRow 40 = .ok (.istore_n 2, 1) := by decide +kernel
theorem dX1_costOfRow_41 : decode cX1_costOfRow 41 = .ok (.goto 60, 3) := by decide +kernel
theorem dX1_costOfRow_44 : decode cX1_costOfRow 44 = .ok (.iload_n 2, 1) := by decide +kernel
theorem dX1_costOfRow_45 : decode cX1_costOfRow 45 = .ok (.aload_n 0, 1) := by decide +kernel
theorem dX1_costOfRow_46 : decode cX1_costOfRow 46 = .ok (.getfield 28, 3) := by decide +kernel
theorem dX1_costOfRow_49 : decode cX1_costOfRow 49 = .ok (.iload 5, 2) := by decide +kernel
theorem dX1_costOfRow_51 : decode cX1_costOfRow 51 = .ok (.iaload, 1) := by decide +kernel
theorem dX1_costOfRow_52 : decode cX1_costOfRow 52 = .ok (.iadd, 1) := by decide +kernel
theorem dX1_costOfRow_53 : decode cX1_costOfRow 53 = .ok (.istore_n 2, 1) := by decide +kernel
theorem dX1_costOfRow_54 : decode cX1_costOfRow 54 = .ok (.iload_n 3, 1) := by decide +kernel
theorem dX1_costOfRow_55 : decode cX1_costOfRow 55 = .ok (.iconst (-1), 1) := by decide +kernel
theorem dX1_costOfRow_56 : decode cX1_costOfRow 56 = .ok (.if_icmp .eq 42, 3) := by decide +kernel
theorem dX1_costOfRow_59 : decode cX1_costOfRow 59 = .ok (.aload_n 0, 1) := by decide +kernel
theorem dX1_costOfRow_60 : decode cX1_costOfRow 60 = .ok (.aload_n 1, 1) := by decide +kernel
theorem dX1_costOfRow_61 : decode cX1_costOfRow 61 = .ok (.iload_n 3, 1) := by decide +kernel
theorem dX1_costOfRow_62 : decode cX1_costOfRow 62 = .ok (.iaload, 1) := by decide +kernel
theorem dX1_costOfRow_63 : decode cX1_costOfRow 63 = .ok (.aload_n 1, 1) := by decide +kernel
theorem dX1_costOfRow_64 : decode cX1_costOfRow 64 = .ok (.iload 4, 2) := by decide +kernel
theorem dX1_costOfRow_66 : decode cX1_costOfRow 66 = .ok (.iaload, 1) := by decide +kernel
theorem dX1_costOfRow_67 : decode cX1_costOfRow 67 = .ok (.aload_n 0, 1) := by decide +kernel
theorem dX1_costOfRow_68 : decode cX1_costOfRow 68 = .ok (.aload_n 0, 1) := by decide +kernel
theorem dX1_costOfRow_69 : decode cX1_costOfRow 69 = .ok (.iload_n 3, 1) := by decide +kernel
theorem dX1_costOfRow_70 : decode cX1_costOfRow 70 = .ok (.iload 4, 2) := by decide +kernel
theorem dX1_costOfRow_72 : decode cX1_costOfRow 72 = .ok (.invokevirtual 154, 3) := by decide +kernel
theorem dX1_costOfRow_75 : decode cX1_costOfRow 75 = .ok (.invokevirtual 115, 3) := by decide +kernel
theorem dX1_costOfRow_78 : decode cX1_costOfRow 78 = .ok (.invokevirtual 118, 3) := by decide +kernel
theorem dX1_costOfRow_81 : decode cX1_costOfRow 81 = .ok (.istore 6, 2) := by decide +kernel
theorem dX1_costOfRow_83 : decode cX1_costOfRow 83 = .ok (.iload 6, 2) := by decide +kernel
theorem dX1_costOfRow_85 : decode cX1_costOfRow 85 = .ok (.ifCond .ge 6, 3) := by decide +kernel
theorem dX1_costOfRow_88 : decode cX1_costOfRow 88 = .ok (.bipush (-4), 2) := by decide +kernel
theorem dX1_costOfRow_90 : decode cX1_costOfRow 90 = .ok (.ireturn, 1) := by decide +kernel
theorem dX1_costOfRow_91 : decode cX1_costOfRow 91 = .ok (.iload_n 2, 1) := by decide +kernel
theorem dX1_costOfRow_92 : decode cX1_costOfRow 92 = .ok (.iload 6, 2) := by decide +kernel
theorem dX1_costOfRow_94 : decode cX1_costOfRow 94 = .ok (.iconst 4, 1) := by decide +kernel
theorem dX1_costOfRow_95 : decode cX1_costOfRow 95 = .ok (.idiv, 1) := by decide +kernel
theorem dX1_costOfRow_96 : decode cX1_costOfRow 96 = .ok (.iadd, 1) := by decide +kernel
theorem dX1_costOfRow_97 : decode cX1_costOfRow 97 = .ok (.istore_n 2, 1) := by decide +kernel
theorem dX1_costOfRow_98 : decode cX1_costOfRow 98 = .ok (.iload 4, 2) := by decide +kernel
theorem dX1_costOfRow_100 : decode cX1_costOfRow 100 = .ok (.istore_n 3, 1) := by decide +kernel
theorem dX1_costOfRow_101 : decode cX1_costOfRow 101 = .ok (.iinc 4 1, 3) := by decide +kernel
theorem dX1_costOfRow_104 : decode cX1_costOfRow 104 = .ok (.goto (-97), 3) := by decide +kernel
theorem dX1_costOfRow_107 : decode cX1_costOfRow 107 = .ok (.iload_n 2, 1) := by decide +kernel
theorem dX1_costOfRow_108 : decode cX1_costOfRow 108 = .ok (.ireturn, 1) := by decide +kernel
theorem dX1_ticksBetween_0 : decode cX1_ticksBetween 0 = .ok (.aload_n 0, 1) := by decide +kernel
theorem dX1_ticksBetween_1 : decode cX1_ticksBetween 1 = .ok (.getfield 51, 3) := by decide +kernel
theorem dX1_ticksBetween_4 : decode cX1_ticksBetween 4 = .ok (.ifnonnull 7, 3) := by decide +kernel
theorem dX1_ticksBetween_7 : decode cX1_ticksBetween 7 = .ok (.iconst 0, 1) := by decide +kernel
theorem dX1_ticksBetween_8 : decode cX1_ticksBetween 8 = .ok (.goto 22, 3) := by decide +kernel
theorem dX1_ticksBetween_11 : decode cX1_ticksBetween 11 = .ok (.aload_n 0, 1) := by decide +kernel
theorem dX1_ticksBetween_12 : decode cX1_ticksBetween 12 = .ok (.getfield 51, 3) := by decide +kernel
theorem dX1_ticksBetween_15 : decode cX1_ticksBetween 15 = .ok (.getfield 85, 3) := by decide +kernel
theorem dX1_ticksBetween_18 : decode cX1_ticksBetween 18 = .ok (.iload_n 2, 1) := by decide +kernel
theorem dX1_ticksBetween_19 : decode cX1_ticksBetween 19 = .ok (.iaload, 1) := by decide +kernel
theorem dX1_ticksBetween_20 : decode cX1_ticksBetween 20 = .ok (.aload_n 0, 1) := by decide +kernel
theorem dX1_ticksBetween_21 : decode cX1_ticksBetween 21 = .ok (.getfield 51, 3) := by decide +kernel
theorem dX1_ticksBetween_24 : decode cX1_ticksBetween 24 = .ok (.getfield 85, 3) := by decide +kernel
theorem dX1_ticksBetween_27 : decode cX1_ticksBetween 27 = .ok (.iload_n 1, 1) := by decide +kernel
theorem dX1_ticksBetween_28 : decode cX1_ticksBetween 28 = .ok (.iaload, 1) := by decide +kernel
theorem dX1_ticksBetween_29 : decode cX1_ticksBetween 29 = .ok (.isub, 1) := by decide +kernel
theorem dX1_ticksBetween_30 : decode cX1_ticksBetween 30 = .ok (.ireturn, 1) := by decide +kernel
theorem dX1_feesOfLeastRow_0 : decode cX1_feesOfLeastRow 0 = .ok (.iconst 0, 1) := by decide +kernel
theorem dX1_feesOfLeastRow_1 : decode cX1_feesOfLeastRow 1 = .ok (.istore_n 1, 1) := by decide +kernel
theorem dX1_feesOfLeastRow_2 : decode cX1_feesOfLeastRow 2 = .ok (.iconst 0, 1) := by decide +kernel
theorem dX1_feesOfLeastRow_3 : decode cX1_feesOfLeastRow 3 = .ok (.istore_n 2, 1) := by decide +kernel
theorem dX1_feesOfLeastRow_4 : decode cX1_feesOfLeastRow 4 = .ok (.iload_n 2, 1) := by decide +kernel
theorem dX1_feesOfLeastRow_5 : decode cX1_feesOfLeastRow 5 = .ok (.aload_n 0, 1) := by decide +kernel
theorem dX1_feesOfLeastRow_6 : decode cX1_feesOfLeastRow 6 = .ok (.getfield 64, 3) := by decide +kernel
theorem dX1_feesOfLeastRow_9 : decode cX1_feesOfLeastRow 9 = .ok (.if_icmp .ge 72, 3) := by decide +kernel
theorem dX1_feesOfLeastRow_12 : decode cX1_feesOfLeastRow 12 = .ok (.aload_n 0, 1) := by decide +kernel
theorem dX1_feesOfLeastRow_13 : decode cX1_feesOfLeastRow 13 = .ok (.iload_n 2, 1) := by decide +kernel
theorem dX1_feesOfLeastRow_14 : decode cX1_feesOfLeastRow 14 = .ok (.invokevirtual 157, 3) := by decide +kernel
theorem dX1_feesOfLeastRow_17 : decode cX1_feesOfLeastRow 17 = .ok (.istore_n 3, 1) := by decide +kernel
theorem dX1_feesOfLeastRow_18 : decode cX1_feesOfLeastRow 18 = .ok (.aload_n 0, 1) := by decide +kernel
theorem dX1_feesOfLeastRow_19 : decode cX1_feesOfLeastRow 19 = .ok (.getfield 25, 3) := by decide +kernel
theorem dX1_feesOfLeastRow_22 : decode cX1_feesOfLeastRow 22 = .ok (.iload_n 2, 1) := by decide +kernel
theorem dX1_feesOfLeastRow_23 : decode cX1_feesOfLeastRow 23 = .ok (.iaload, 1) := by decide +kernel
theorem dX1_feesOfLeastRow_24 : decode cX1_feesOfLeastRow 24 = .ok (.bipush (-5), 2) := by decide +kernel
theorem dX1_feesOfLeastRow_26 : decode cX1_feesOfLeastRow 26 = .ok (.if_icmp .eq 49, 3) := by decide +kernel
theorem dX1_feesOfLeastRow_29 : decode cX1_feesOfLeastRow 29 = .ok (.iload_n 3, 1) := by decide +kernel
theorem dX1_feesOfLeastRow_30 : decode cX1_feesOfLeastRow 30 = .ok (.iconst (-1), 1) := by decide +kernel
theorem dX1_feesOfLeastRow_31 : decode cX1_feesOfLeastRow 31 = .ok (.if_icmp .eq 44, 3) := by decide +kernel
theorem dX1_feesOfLeastRow_34 : decode cX1_feesOfLeastRow 34 = .ok (.aload_n 0, 1) := by decide +kernel
theorem dX1_feesOfLeastRow_35 : decode cX1_feesOfLeastRow 35 = .ok (.getfield 47, 3) := by decide +kernel
theorem dX1_feesOfLeastRow_38 : decode cX1_feesOfLeastRow 38 = .ok (.aload_n 0, 1) := by decide +kernel
theorem dX1_feesOfLeastRow_39 : decode cX1_feesOfLeastRow 39 = .ok (.getfield 25, 3) := by decide +kernel
theorem dX1_feesOfLeastRow_42 : decode cX1_feesOfLeastRow 42 = .ok (.iload_n 2, 1) := by decide +kernel
theorem dX1_feesOfLeastRow_43 : decode cX1_feesOfLeastRow 43 = .ok (.iaload, 1) := by decide +kernel
theorem dX1_feesOfLeastRow_44 : decode cX1_feesOfLeastRow 44 = .ok (.aload_n 0, 1) := by decide +kernel
theorem dX1_feesOfLeastRow_45 : decode cX1_feesOfLeastRow 45 = .ok (.getfield 25, 3) := by decide +kernel
theorem dX1_feesOfLeastRow_48 : decode cX1_feesOfLeastRow 48 = .ok (.iload_n 3, 1) := by decide +kernel
theorem dX1_feesOfLeastRow_49 : decode cX1_feesOfLeastRow 49 = .ok (.iaload, 1) := by decide +kernel
theorem dX1_feesOfLeastRow_50 : decode cX1_feesOfLeastRow 50 = .ok (.invokevirtual 125, 3) := by decide +kernel
theorem dX1_feesOfLeastRow_53 : decode cX1_feesOfLeastRow 53 = .ok (.istore 4, 2) := by decide +kernel
theorem dX1_feesOfLeastRow_55 : decode cX1_feesOfLeastRow 55 = .ok (.iload_n 1, 1) := by decide +kernel
theorem dX1_feesOfLeastRow_56 : decode cX1_feesOfLeastRow 56 = .ok (.iload 4, 2) := by decide +kernel
theorem dX1_feesOfLeastRow_58 : decode cX1_feesOfLeastRow 58 = .ok (.ldc 131, 2) := by decide +kernel
theorem dX1_feesOfLeastRow_60 : decode cX1_feesOfLeastRow 60 = .ok (.if_icmp .ne 7, 3) := by decide +kernel
theorem dX1_feesOfLeastRow_63 : decode cX1_feesOfLeastRow 63 = .ok (.iconst 0, 1) := by decide +kernel
theorem dX1_feesOfLeastRow_64 : decode cX1_feesOfLeastRow 64 = .ok (.goto 9, 3) := by decide +kernel
theorem dX1_feesOfLeastRow_67 : decode cX1_feesOfLeastRow 67 = .ok (.iload 4, 2) := by decide +kernel
theorem dX1_feesOfLeastRow_69 : decode cX1_feesOfLeastRow 69 = .ok (.sipush 10000, 3) := by decide +kernel
theorem dX1_feesOfLeastRow_72 : decode cX1_feesOfLeastRow 72 = .ok (.irem, 1) := by decide +kernel
theorem dX1_feesOfLeastRow_73 : decode cX1_feesOfLeastRow 73 = .ok (.iadd, 1) := by decide +kernel
theorem dX1_feesOfLeastRow_74 : decode cX1_feesOfLeastRow 74 = .ok (.istore_n 1, 1) := by decide +kernel
theorem dX1_feesOfLeastRow_75 : decode cX1_feesOfLeastRow 75 = .ok (.iinc 2 1, 3) := by decide +kernel
theorem dX1_feesOfLeastRow_78 : decode cX1_feesOfLeastRow 78 = .ok (.goto (-74), 3) := by decide +kernel
theorem dX1_feesOfLeastRow_81 : decode cX1_feesOfLeastRow 81 = .ok (.iload_n 1, 1) := by decide +kernel
theorem dX1_feesOfLeastRow_82 : decode cX1_feesOfLeastRow 82 = .ok (.ireturn, 1) := by decide +kernel
theorem dX1_speedBehind_0 : decode cX1_speedBehind 0 = .ok (.aload_n 0, 1) := by decide +kernel
theorem dX1_speedBehind_1 : decode cX1_speedBehind 1 = .ok (.iload_n 1, 1) := by decide +kernel
theorem dX1_speedBehind_2 : decode cX1_speedBehind 2 = .ok (.invokevirtual 157, 3) := by decide +kernel
theorem dX1_speedBehind_5 : decode cX1_speedBehind 5 = .ok (.istore_n 2, 1) := by decide +kernel
theorem dX1_speedBehind_6 : decode cX1_speedBehind 6 = .ok (.aload_n 0, 1) := by decide +kernel
theorem dX1_speedBehind_7 : decode cX1_speedBehind 7 = .ok (.getfield 25, 3) := by decide +kernel
theorem dX1_speedBehind_10 : decode cX1_speedBehind 10 = .ok (.iload_n 1, 1) := by decide +kernel
theorem dX1_speedBehind_11 : decode cX1_speedBehind 11 = .ok (.iaload, 1) := by decide +kernel
theorem dX1_speedBehind_12 : decode cX1_speedBehind 12 = .ok (.bipush (-5), 2) := by decide +kernel
theorem dX1_speedBehind_14 : decode cX1_speedBehind 14 = .ok (.if_icmp .eq 8, 3) := by decide +kernel
theorem dX1_speedBehind_17 : decode cX1_speedBehind 17 = .ok (.iload_n 2, 1) := by decide +kernel
theorem dX1_speedBehind_18 : decode cX1_speedBehind 18 = .ok (.iconst (-1), 1) := by decide +kernel
theorem dX1_speedBehind_19 : decode cX1_speedBehind 19 = .ok (.if_icmp .ne 6, 3) := by decide +kernel
theorem dX1_speedBehind_22 : decode cX1_speedBehind 22 = .ok (.bipush (-3), 2) := by decide +kernel
theorem dX1_speedBehind_24 : decode cX1_speedBehind 24 = .ok (.ireturn, 1) := by decide +kernel
theorem dX1_speedBehind_25 : decode cX1_speedBehind 25 = .ok (.aload_n 0, 1) := by decide +kernel
theorem dX1_speedBehind_26 : decode cX1_speedBehind 26 = .ok (.getfield 47, 3) := by decide +kernel
theorem dX1_speedBehind_29 : decode cX1_speedBehind 29 = .ok (.aload_n 0, 1) := by decide +kernel
theorem dX1_speedBehind_30 : decode cX1_speedBehind 30 = .ok (.getfield 25, 3) := by decide +kernel
theorem dX1_speedBehind_33 : decode cX1_speedBehind 33 = .ok (.iload_n 1, 1) := by decide +kernel
theorem dX1_speedBehind_34 : decode cX1_speedBehind 34 = .ok (.iaload, 1) := by decide +kernel
theorem dX1_speedBehind_35 : decode cX1_speedBehind 35 = .ok (.aload_n 0, 1) := by decide +kernel
theorem dX1_speedBehind_36 : decode cX1_speedBehind 36 = .ok (.getfield 25, 3) := by decide +kernel
theorem dX1_speedBehind_39 : decode cX1_speedBehind 39 = .ok (.iload_n 2, 1) := by decide +kernel
theorem dX1_speedBehind_40 : decode cX1_speedBehind 40 = .ok (.iaload, 1) := by decide +kernel
theorem dX1_speedBehind_41 : decode cX1_speedBehind 41 = .ok (.invokevirtual 125, 3) := by decide +kernel
theorem dX1_speedBehind_44 : decode cX1_speedBehind 44 = .ok (.istore_n 3, 1) := by decide +kernel
theorem dX1_speedBehind_45 : decode cX1_speedBehind 45 = .ok (.aload_n 0, 1) := by decide +kernel
theorem dX1_speedBehind_46 : decode cX1_speedBehind 46 = .ok (.iload_n 1, 1) := by decide +kernel
theorem dX1_speedBehind_47 : decode cX1_speedBehind 47 = .ok (.iload_n 2, 1) := by decide +kernel
theorem dX1_speedBehind_48 : decode cX1_speedBehind 48 = .ok (.invokevirtual 154, 3) := by decide +kernel
theorem dX1_speedBehind_51 : decode cX1_speedBehind 51 = .ok (.istore 4, 2) := by decide +kernel
theorem dX1_speedBehind_53 : decode cX1_speedBehind 53 = .ok (.iload_n 3, 1) := by decide +kernel
theorem dX1_speedBehind_54 : decode cX1_speedBehind 54 = .ok (.ldc 131, 2) := by decide +kernel
theorem dX1_speedBehind_56 : decode cX1_speedBehind 56 = .ok (.if_icmp .eq 8, 3) := by decide +kernel
theorem dX1_speedBehind_59 : decode cX1_speedBehind 59 = .ok (.iload 4, 2) := by decide +kernel
theorem dX1_speedBehind_61 : decode cX1_speedBehind 61 = .ok (.ifCond .gt 8, 3) := by decide +kernel
theorem dX1_speedBehind_64 : decode cX1_speedBehind 64 = .ok (.bipush (-3), 2) := by decide +kernel
theorem dX1_speedBehind_66 : decode cX1_speedBehind 66 = .ok (.goto 13, 3) := by decide +kernel
theorem dX1_speedBehind_69 : decode cX1_speedBehind 69 = .ok (.iload_n 3, 1) := by decide +kernel
theorem dX1_speedBehind_70 : decode cX1_speedBehind 70 = .ok (.sipush 10000, 3) := by decide +kernel
theorem dX1_speedBehind_73 : decode cX1_speedBehind 73 = .ok (.idiv, 1) := by decide +kernel
theorem dX1_speedBehind_74 : decode cX1_speedBehind 74 = .ok (.iconst 4, 1) := by decide +kernel
theorem dX1_speedBehind_75 : decode cX1_speedBehind 75 = .ok (.iload 4, 2) := by decide +kernel
theorem dX1_speedBehind_77 : decode cX1_speedBehind 77 = .ok (.imul, 1) := by decide +kernel
theorem dX1_speedBehind_78 : decode cX1_speedBehind 78 = .ok (.idiv, 1) := by decide +kernel
theorem dX1_speedBehind_79 : decode cX1_speedBehind 79 = .ok (.ireturn, 1) := by decide +kernel
theorem dX1_nextNotLeft_0 : decode cX1_nextNotLeft 0 = .ok (.iload_n 1, 1) := by decide +kernel
theorem dX1_nextNotLeft_1 : decode cX1_nextNotLeft 1 = .ok (.iconst 1, 1) := by decide +kernel
theorem dX1_nextNotLeft_2 : decode cX1_nextNotLeft 2 = .ok (.iadd, 1) := by decide +kernel
theorem dX1_nextNotLeft_3 : decode cX1_nextNotLeft 3 = .ok (.istore_n 2, 1) := by decide +kernel
theorem dX1_nextNotLeft_4 : decode cX1_nextNotLeft 4 = .ok (.iload_n 2, 1) := by decide +kernel
theorem dX1_nextNotLeft_5 : decode cX1_nextNotLeft 5 = .ok (.aload_n 0, 1) := by decide +kernel
theorem dX1_nextNotLeft_6 : decode cX1_nextNotLeft 6 = .ok (.getfield 64, 3) := by decide +kernel
theorem dX1_nextNotLeft_9 : decode cX1_nextNotLeft 9 = .ok (.if_icmp .ge 22, 3) := by decide +kernel
theorem dX1_nextNotLeft_12 : decode cX1_nextNotLeft 12 = .ok (.aload_n 0, 1) := by decide +kernel
theorem dX1_nextNotLeft_13 : decode cX1_nextNotLeft 13 = .ok (.getfield 25, 3) := by decide +kernel
theorem dX1_nextNotLeft_16 : decode cX1_nextNotLeft 16 = .ok (.iload_n 2, 1) := by decide +kernel
theorem dX1_nextNotLeft_17 : decode cX1_nextNotLeft 17 = .ok (.iaload, 1) := by decide +kernel
theorem dX1_nextNotLeft_18 : decode cX1_nextNotLeft 18 = .ok (.bipush (-5), 2) := by decide +kernel
theorem dX1_nextNotLeft_20 : decode cX1_nextNotLeft 20 = .ok (.if_icmp .eq 5, 3) := by decide +kernel
theorem dX1_nextNotLeft_23 : decode cX1_nextNotLeft 23 = .ok (.iload_n 2, 1) := by decide +kernel
theorem dX1_nextNotLeft_24 : decode cX1_nextNotLeft 24 = .ok (.ireturn, 1) := by decide +kernel
theorem dX1_nextNotLeft_25 : decode cX1_nextNotLeft 25 = .ok (.iinc 2 1, 3) := by decide +kernel
theorem dX1_nextNotLeft_28 : decode cX1_nextNotLeft 28 = .ok (.goto (-24), 3) := by decide +kernel
theorem dX1_nextNotLeft_31 : decode cX1_nextNotLeft 31 = .ok (.iconst (-1), 1) := by decide +kernel
theorem dX1_nextNotLeft_32 : decode cX1_nextNotLeft 32 = .ok (.ireturn, 1) := by decide +kernel
