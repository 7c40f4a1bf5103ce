theorem dX4_init_0 : decode cX4_init 0 = .ok (.aload_n 0, 1) := by decide +kernel
theorem dX4_init_1 : decode cX4_init 1 = .ok (.invokespecial 3, 3) := by decide +kernel
theorem dX4_init_4 : decode cX4_init 4 = .ok (.aload_n 0, 1) := by decide +kernel
theorem dX4_init_5 : decode cX4_init 5 = .ok (.new 9, 3) := by decide +kernel
theorem dX4_init_8 : decode cX4_init 8 = .ok (.dup, 1) := by decide +kernel
theorem dX4_init_9 : decode cX4_init 9 = .ok (.invokespecial 11, 3) := by decide +kernel
theorem dX4_init_12 : decode cX4_init 12 = .ok (.putfield 12, 3) := by decide +kernel
theorem dX4_init_15 : decode cX4_init 15 = .ok (.aload_n 0, 1) := by decide +kernel
theorem dX4_init_16 : decode cX4_init 16 = .ok (.new 16, 3) := by decide +kernel
theorem dX4_init_19 : decode cX4_init 19 = .ok (.dup, 1) := by decide +kernel
theorem dX4_init_20 : decode cX4_init 20 = .ok (.aload_n 0, 1) := by decide +kernel
theorem dX4_init_21 : decode cX4_init 21 = .ok (.getfield 12, 3) := by decide +kernel
theorem dX4_init_24 : decode cX4_init 24 = .ok (.invokespecial 18, 3) := by decide +kernel
theorem dX4_init_27 : decode cX4_init 27 = .ok (.putfield 21, 3) := by decide +kernel
theorem dX4_init_30 : decode cX4_init 30 = .ok (.aload_n 0, 1) := by decide +kernel
theorem dX4_init_31 : decode cX4_init 31 = .ok (.new 25, 3) := by decide +kernel
theorem dX4_init_34 : decode cX4_init 34 = .ok (.dup, 1) := by decide +kernel
theorem dX4_init_35 : decode cX4_init 35 = .ok (.aload_n 0, 1) := by decide +kernel
theorem dX4_init_36 : decode cX4_init 36 = .ok (.getfield 12, 3) := by decide +kernel
theorem dX4_init_39 : decode cX4_init 39 = .ok (.aload_n 0, 1) := by decide +kernel
theorem dX4_init_40 : decode cX4_init 40 = .ok (.getfield 21, 3) := by decide +kernel
theorem dX4_init_43 : decode cX4_init 43 = .ok (.invokespecial 27, 3) := by decide +kernel
theorem dX4_init_46 : decode cX4_init 46 = .ok (.putfield 30, 3) := by decide +kernel
theorem dX4_init_49 : decode cX4_init 49 = .ok (.aload_n 0, 1) := by decide +kernel
theorem dX4_init_50 : decode cX4_init 50 = .ok (.bipush 6, 2) := by decide +kernel
theorem dX4_init_52 : decode cX4_init 52 = .ok (.anewarray 34, 3) := by decide +kernel
theorem dX4_init_55 : decode cX4_init 55 = .ok (.putfield 36, 3) := by decide +kernel
theorem dX4_init_58 : decode cX4_init 58 = .ok (.aload_n 0, 1) := by decide +kernel
theorem dX4_init_59 : decode cX4_init 59 = .ok (.iconst 0, 1) := by decide +kernel
theorem dX4_init_60 : decode cX4_init 60 = .ok (.putfield 40, 3) := by decide +kernel
theorem dX4_init_63 : decode cX4_init 63 = .ok (.aload_n 0, 1) := by decide +kernel
theorem dX4_init_64 : decode cX4_init 64 = .ok (.bipush 20, 2) := by decide +kernel
theorem dX4_init_66 : decode cX4_init 66 = .ok (.newarray .int, 2) := by decide +kernel
theorem dX4_init_68 : decode cX4_init 68 = .ok (.putfield 44, 3) := by decide +kernel
theorem dX4_init_71 : decode cX4_init 71 = .ok (.aload_n 0, 1) := by decide +kernel
theorem dX4_init_72 : decode cX4_init 72 = .ok (.iconst 0, 1) := by decide +kernel
theorem dX4_init_73 : decode cX4_init 73 = .ok (.putfield 48, 3) := by decide +kernel
theorem dX4_init_76 : decode cX4_init 76 = .ok (.aload_n 0, 1) := by decide +kernel
theorem dX4_init_77 : decode cX4_init 77 = .ok (.bipush 6, 2) := by decide +kernel
theorem dX4_init_79 : decode cX4_init 79 = .ok (.newarray .int, 2) := by decide +kernel
theorem dX4_init_81 : decode cX4_init 81 = .ok (.putfield 51, 3) := by decide +kernel
theorem dX4_init_84 : decode cX4_init 84 = .ok (.return_, 1) := by decide +kernel
theorem dX4_knot_0 : decode cX4_knot 0 = .ok (.iload_n 1, 1) := by decide +kernel
theorem dX4_knot_1 : decode cX4_knot 1 = .ok (.iconst 0, 1) := by decide +kernel
theorem dX4_knot_2 : decode cX4_knot 2 = .ok (.bipush 99, 2) := by decide +kernel
theorem dX4_knot_4 : decode cX4_knot 4 = .ok (.invokestatic 54, 3) := by decide +kernel
theorem dX4_knot_7 : decode cX4_knot 7 = .ok (.ifCond .eq 13, 3) := by decide +kernel
theorem dX4_knot_10 : decode cX4_knot 10 = .ok (.iload_n 2, 1) := by decide +kernel
theorem dX4_knot_11 : decode cX4_knot 11 = .ok (.iconst 0, 1) := by decide +kernel
theorem dX4_knot_12 : decode cX4_knot 12 = .ok (.bipush 99, 2) := by decide +kernel
theorem dX4_knot_14 : decode cX4_knot 14 = .ok (.invokestatic 54, 3) := by decide +kernel
theorem dX4_knot_17 : decode cX4_knot 17 = .ok (.ifCond .ne 5, 3) := by decide +kernel
theorem dX4_knot_20 : decode cX4_knot 20 = .ok (.iconst (-1), 1) := by decide +kernel
theorem dX4_knot_21 : decode cX4_knot 21 = .ok (.ireturn, 1) := by decide +kernel
theorem dX4_knot_22 : decode cX4_knot 22 = .ok (.aload_n 0, 1) := by decide +kernel
theorem dX4_knot_23 : decode cX4_knot 23 = .ok (.getfield 12, 3) := by decide +kernel
theorem dX4_knot_26 : decode cX4_knot 26 = .ok (.iload_n 1, 1) := by decide +kernel
theorem dX4_knot_27 : decode cX4_knot 27 = .ok (.iload_n 2, 1) := by decide +kernel
theorem dX4_knot_28 : decode cX4_knot 28 = .ok (.invokevirtual 58, 3) := by decide +kernel
theorem dX4_knot_31 : decode cX4_knot 31 = .ok (.ireturn, 1) := by decide +kernel
theorem dX4_road_0 : decode cX4_road 0 = .ok (.iload_n 1, 1) := by decide +kernel
theorem dX4_road_1 : decode cX4_road 1 = .ok (.bipush 100, 2) := by decide +kernel
theorem dX4_road_3 : decode cX4_road 3 = .ok (.idiv, 1) := by decide +kernel
theorem dX4_road_4 : decode cX4_road 4 = .ok (.istore 5, 2) := by decide +kernel
theorem dX4_road_6 : decode cX4_road 6 = .ok (.iload_n 1, 1) := by decide +kernel
theorem dX4_road_7 : decode cX4_road 7 = .ok (.bipush 100, 2) := by decide +kernel
theorem dX4_road_9 : decode cX4_road 9 = .ok (.irem, 1) := by decide +kernel
theorem dX4_road_10 : decode cX4_road 10 = .ok (.istore 6, 2) := by decide +kernel
theorem dX4_road_12 : decode cX4_road 12 = .ok (.aload_n 0, 1) := by decide +kernel
theorem dX4_road_13 : decode cX4_road 13 = .ok (.getfield 12, 3) := by decide +kernel
theorem dX4_road_16 : decode cX4_road 16 = .ok (.iload 5, 2) := by decide +kernel
theorem dX4_road_18 : decode cX4_road 18 = .ok (.invokevirtual 62, 3) := by decide +kernel
theorem dX4_road_21 : decode cX4_road 21 = .ok (.ifCond .eq 33, 3) := by decide +kernel
theorem dX4_road_24 : decode cX4_road 24 = .ok (.aload_n 0, 1) := by decide +kernel
theorem dX4_road_25 : decode cX4_road 25 = .ok (.getfield 12, 3) := by decide +kernel
theorem dX4_road_28 : decode cX4_road 28 = .ok (.iload 6, 2) := by decide +kernel
theorem dX4_road_30 : decode cX4_road 30 = .ok (.invokevirtual 62, 3) := by decide +kernel
theorem dX4_road_33 : decode cX4_road 33 = .ok (.ifCond .eq 21, 3) := by decide +kernel
theorem dX4_road_36 : decode cX4_road 36 = .ok (.iload 5, 2) := by decide +kernel
theorem dX4_road_38 : decode cX4_road 38 = .ok (.iload 6, 2) := by decide +kernel
theorem dX4_road_40 : decode cX4_road 40 = .ok (.if_icmp .eq 14, 3) := by decide +kernel
theorem dX4_road_43 : decode cX4_road 43 = .ok (.iload_n 2, 1) := by decide +kernel
theorem dX4_road_44 : decode cX4_road 44 = .ok (.iconst 1, 1) := by decide +kernel
theorem dX4_road_45 : decode cX4_road 45 = .ok (.sipush 200, 3) := by decide +kernel
theorem dX4_road_48 : decode cX4_road 48 = .ok (.invokestatic 54, 3) := by decide +kernel
theorem dX4_road_51 : decode cX4_road 51 = .ok (.ifCond .ne 5, 3) := by decide +kernel
theorem dX4_road_54 : decode cX4_road 54 = .ok (.iconst (-1), 1) := by decide +kernel
theorem dX4_road_55 : decode cX4_road 55 = .ok (.ireturn, 1) := by decide +kernel
theorem dX4_road_56 : decode cX4_road 56 = .ok (.iload_n 3, 1) := by decide +kernel
theorem dX4_road_57 : decode cX4_road 57 = .ok (.iconst 0, 1) := by decide +kernel
theorem dX4_road_58 : decode cX4_road 58 = .ok (.iconst 3, 1) := by decide +kernel
theorem dX4_road_59 : decode cX4_road 59 = .ok (.invokestatic 54, 3) := by decide +kernel
theorem dX4_road_62 : decode cX4_road 62 = .ok (.ifCond .eq 12, 3) := by decide +kernel
theorem dX4_road_65 : decode cX4_road 65 = .ok (.iload 4, 2) := by decide +kernel
theorem dX4_road_67 : decode cX4_road 67 = .ok (.iload_n 3, 1) := by decide +kernel
theorem dX4_road_68 : decode cX4_road 68 = .ok (.invokestatic 66, 3) := by decide +kernel
theorem dX4_road_71 : decode cX4_road 71 = .ok (.ifCond .ne 5, 3) := by decide +kernel
theorem dX4_road_74 : decode cX4_road 74 = .ok (.iconst (-1), 1) := by decide +kernel
theorem dX4_road_75 : decode cX4_road 75 = .ok (.ireturn, 1) := by decide +kernel
theorem dX4_road_76 : decode cX4_road 76 = .ok (.aload_n 0, 1) := by decide +kernel
theorem dX4_road_77 : decode cX4_road 77 = .ok (.invokevirtual 70, 3) := by decide +kernel
theorem dX4_road_80 : decode cX4_road 80 = .ok (.aload_n 0, 1) := by decide +kernel
theorem dX4_road_81 : decode cX4_road 81 = .ok (.getfield 12, 3) := by decide +kernel
theorem dX4_road_84 : decode cX4_road 84 = .ok (.iload 5, 2) := by decide +kernel
theorem dX4_road_86 : decode cX4_road 86 = .ok (.iload 6, 2) := by decide +kernel
theorem dX4_road_88 : decode cX4_road 88 = .ok (.iload_n 2, 1) := by decide +kernel
theorem dX4_road_89 : decode cX4_road 89 = .ok (.iload_n 3, 1) := by decide +kernel
theorem dX4_road_90 : decode cX4_road 90 = .ok (.iload 4, 2) := by decide +kernel
theorem dX4_road_92 : decode cX4_road 92 = .ok (.invokevirtual 73, 3) := by decide +kernel
theorem dX4_road_95 : decode cX4_road 95 = .ok (.ireturn, 1) := by decide +kernel
theorem dX4_bar_0 : decode cX4_bar 0 = .ok (.aload_n 0, 1) := by decide +kernel
theorem dX4_bar_1 : decode cX4_bar 1 = .ok (.getfield 12, 3) := by decide +kernel
theorem dX4_bar_4 : decode cX4_bar 4 = .ok (.iload_n 1, 1) := by decide +kernel
theorem dX4_bar_5 : decode cX4_bar 5 = .ok (.invokevirtual 77, 3) := by decide +kernel
theorem dX4_bar_8 : decode cX4_bar 8 = .ok (.ifCond .eq 35, 3) := by decide +kernel
theorem dX4_bar_11 : decode cX4_bar 11 = .ok (.aload_n 0, 1) := by decide +kernel
theorem dX4_bar_12 : decode cX4_bar 12 = .ok (.getfield 12, 3) := by decide +kernel
theorem dX4_bar_15 : decode cX4_bar 15 = .ok (.iload_n 2, 1) := by decide +kernel
theorem dX4_bar_16 : decode cX4_bar 16 = .ok (.invokevirtual 77, 3) := by decide +kernel
theorem dX4_bar_19 : decode cX4_bar 19 = .ok (.ifCond .eq 24, 3) := by decide +kernel
theorem dX4_bar_22 : decode cX4_bar 22 = .ok (.iload_n 3, 1) := by decide +kernel
theorem dX4_bar_23 : decode cX4_bar 23 = .ok (.iconst 0, 1) := by decide +kernel
theorem dX4_bar_24 : decode cX4_bar 24 = .ok (.iconst 1, 1) := by decide +kernel
theorem dX4_bar_25 : decode cX4_bar 25 = .ok (.invokestatic 54, 3) := by decide +kernel
theorem dX4_bar_28 : decode cX4_bar 28 = .ok (.ifCond .eq 15, 3) := by decide +kernel
theorem dX4_bar_31 : decode cX4_bar 31 = .ok (.aload_n 0, 1) := by decide +kernel
theorem dX4_bar_32 : decode cX4_bar 32 = .ok (.getfield 12, 3) := by decide +kernel
theorem dX4_bar_35 : decode cX4_bar 35 = .ok (.iload_n 1, 1) := by decide +kernel
theorem dX4_bar_36 : decode cX4_bar 36 = .ok (.iload_n 2, 1) := by decide +kernel
theorem dX4_bar_37 : decode cX4_bar 37 = .ok (.invokevirtual 80, 3) := by decide +kernel
theorem dX4_bar_40 : decode cX4_bar 40 = .ok (.ifCond .ne 5, 3) := by decide +kernel
theorem dX4_bar_43 : decode cX4_bar 43 = .ok (.iconst (-1), 1) := by decide +kernel
theorem dX4_bar_44 : decode cX4_bar 44 = .ok (.ireturn, 1) := by decide +kernel
theorem dX4_bar_45 : decode cX4_bar 45 = .ok (.aload_n 0, 1) := by decide +kernel
theorem dX4_bar_46 : decode cX4_bar 46 = .ok (.getfield 12, 3) := by decide +kernel
theorem dX4_bar_49 : decode cX4_bar 49 = .ok (.iload_n 1, 1) := by decide +kernel
theorem dX4_bar_50 : decode cX4_bar 50 = .ok (.iload_n 2, 1) := by decide +kernel
theorem dX4_bar_51 : decode cX4_bar 51 = .ok (.invokevirtual 83, 3) := by decide +kernel
theorem dX4_bar_54 : decode cX4_bar 54 = .ok (.ifCond .eq 7, 3) := by decide +kernel
theorem dX4_bar_57 : decode cX4_bar 57 = .ok (.iconst 1, 1) := by decide +kernel
theorem dX4_bar_58 : decode cX4_bar 58 = .ok (.goto 4, 3) := by decide +kernel
theorem dX4_bar_61 : decode cX4_bar 61 = .ok (.iconst 0, 1) := by decide +kernel
theorem dX4_bar_62 : decode cX4_bar 62 = .ok (.istore 4, 2) := by decide +kernel
theorem dX4_bar_64 : decode cX4_bar 64 = .ok (.iload 4, 2) := by decide +kernel
theorem dX4_bar_66 : decode cX4_bar 66 = .ok (.iload_n 3, 1) := by decide +kernel
theorem dX4_bar_67 : decode cX4_bar 67 = .ok (.if_icmp .eq 26, 3) := by decide +kernel
theorem dX4_bar_70 : decode cX4_bar 70 = .ok (.aload_n 0, 1) := by decide +kernel
theorem dX4_bar_71 : decode cX4_bar 71 = .ok (.invokevirtual 70, 3) := by decide +kernel
theorem dX4_bar_74 : decode cX4_bar 74 = .ok (.aload_n 0, 1) := by decide +kernel
theorem dX4_bar_75 : decode cX4_bar 75 = .ok (.getfield 12, 3) := by decide +kernel
theorem dX4_bar_78 : decode cX4_bar 78 = .ok (.iload_n 1, 1) := by decide +kernel
theorem dX4_bar_79 : decode cX4_bar 79 = .ok (.iload_n 2, 1) := by decide +kernel
theorem dX4_bar_80 : decode cX4_bar 80 = .ok (.iload_n 3, 1) := by decide +kernel
theorem dX4_bar_81 : decode cX4_bar 81 = .ok (.iconst 1, 1) := by decide +kernel
theorem dX4_bar_82 : decode cX4_bar 82 = .ok (.if_icmp .ne 7, 3) := by decide +kernel
theorem dX4_bar_85 : decode cX4_bar 85 = .ok (.iconst 1, 1) := by decide +kernel
theorem dX4_bar_86 : decode cX4_bar 86 = .ok (.goto 4, 3) := by decide +kernel
theorem dX4_bar_89 : decode cX4_bar 89 = .ok (.iconst 0, 1) := by decide +kernel
theorem dX4_bar_90 : decode cX4_bar 90 = .ok (.invokevirtual 86, 3) := by decide +kernel
theorem dX4_bar_93 : decode cX4_bar 93 = .ok (.iload 4, 2) := by decide +kernel
theorem dX4_bar_95 : decode cX4_bar 95 = .ok (.ireturn, 1) := by decide +kernel
theorem dX4_way_0 : decode cX4_way 0 = .ok (.aload_n 0, 1) := by decide +kernel
theorem dX4_way_1 : decode cX4_way 1 = .ok (.getfield 12, 3) := by decide +kernel
theorem dX4_way_4 : decode cX4_way 4 = .ok (.iload_n 1, 1) := by decide +kernel
theorem dX4_way_5 : decode cX4_way 5 = .ok (.invokevirtual 90, 3) := by decide +kernel
theorem dX4_way_8 : decode cX4_way 8 = .ok (.ifCond .eq 14, 3) := by decide +kernel
theorem dX4_way_11 : decode cX4_way 11 = .ok (.aload_n 0, 1) := by decide +kernel
theorem dX4_way_12 : decode cX4_way 12 = .ok (.getfield 12, 3) := by decide +kernel
theorem dX4_way_15 : decode cX4_way 15 = .ok (.iload_n 2, 1) := by decide +kernel
theorem dX4_way_16 : decode cX4_way 16 = .ok (.invokevirtual 90, 3) := by decide +kernel
theorem dX4_way_19 : decode cX4_way 19 = .ok (.ifCond .ne 5, 3) := by decide +kernel
theorem dX4_way_22 : decode cX4_way 22 = .ok (.iconst (-1), 1) := by decide +kernel
theorem dX4_way_23 : decode cX4_way 23 = .ok (.ireturn, 1) := by decide +kernel
theorem dX4_way_24 : decode cX4_way 24 = .ok (.aload_n 0, 1) := by decide +kernel
theorem dX4_way_25 : decode cX4_way 25 = .ok (.getfield 21, 3) := by decide +kernel
theorem dX4_way_28 : decode cX4_way 28 = .ok (.iload_n 1, 1) := by decide +kernel
theorem dX4_way_29 : decode cX4_way 29 = .ok (.iload_n 2, 1) := by decide +kernel
theorem dX4_way_30 : decode cX4_way 30 = .ok (.invokevirtual 93, 3) := by decide +kernel
theorem dX4_way_33 : decode cX4_way 33 = .ok (.istore_n 3, 1) := by decide +kernel
theorem dX4_way_34 : decode cX4_way 34 = .ok (.iload_n 3, 1) := by decide +kernel
theorem dX4_way_35 : decode cX4_way 35 = .ok (.ldc 96, 2) := by decide +kernel
theorem dX4_way_37 : decode cX4_way 37 = .ok (.if_icmp .ne 8, 3) := by decide +kernel
theorem dX4_way_40 : decode cX4_way 40 = .ok (.bipush (-4), 2) := by decide +kernel
theorem dX4_way_42 : decode cX4_way 42 = .ok (.goto 8, 3) := by decide +kernel
theorem dX4_way_45 : decode cX4_way 45 = .ok (.iload_n 3, 1) := by decide +kernel
theorem dX4_way_46 : decode cX4_way 46 = .ok (.sipush 10000, 3) := by decide +kernel
theorem dX4_way_49 : decode cX4_way 49 = .ok (.idiv, 1) := by decide +kernel
theorem dX4_way_50 : decode cX4_way 50 = .ok (.ireturn, 1) := by decide +kernel
theorem dX4_fees_0 : decode cX4_fees 0 = .ok (.aload_n 0, 1) := by decide +kernel
theorem dX4_fees_1 : decode cX4_fees 1 = .ok (.getfield 12, 3) := by decide +kernel
theorem dX4_fees_4 : decode cX4_fees 4 = .ok (.iload_n 1, 1) := by decide +kernel
theorem dX4_fees_5 : decode cX4_fees 5 = .ok (.invokevirtual 90, 3) := by decide +kernel
theorem dX4_fees_8 : decode cX4_fees 8 = .ok (.ifCond .eq 14, 3) := by decide +kernel
theorem dX4_fees_11 : decode cX4_fees 11 = .ok (.aload_n 0, 1) := by decide +kernel
theorem dX4_fees_12 : decode cX4_fees 12 = .ok (.getfield 12, 3) := by decide +kernel
theorem dX4_fees_15 : decode cX4_fees 15 = .ok (.iload_n 2, 1) := by decide +kernel
theorem dX4_fees_16 : decode cX4_fees 16 = .ok (.invokevirtual 90, 3) := by decide +kernel
theorem dX4_fees_19 : decode cX4_fees 19 = .ok (.ifCond .ne 5, 3) := by decide +kernel
theorem dX4_fees_22 : decode cX4_fees 22 = .ok (.iconst (-1), 1) := by decide +kernel
theorem dX4_fees_23 : decode cX4_fees 23 = .ok (.ireturn, 1) := by decide +kernel
theorem dX4_fees_24 : decode cX4_fees 24 = .ok (.aload_n 0, 1) := by decide +kernel
theorem dX4_fees_25 : decode cX4_fees 25 = .ok (.getfield 21, 3) := by decide +kernel
theorem dX4_fees_28 : decode cX4_fees 28 = .ok (.iload_n 1, 1) := by decide +kernel
theorem dX4_fees_29 : decode cX4_fees 29 = .ok (.iload_n 2, 1) := by decide +kernel
theorem dX4_fees_30 : decode cX4_fees 30 = .ok (.invokevirtual 93, 3) := by decide +kernel
theorem dX4_fees_33 : decode cX4_fees 33 = .ok (.istore_n 3, 1) := by decide +kernel
theorem dX4_fees_34 : decode cX4_fees 34 = .ok (.iload_n 3, 1) := by decide +kernel
theorem dX4_fees_35 : decode cX4_fees 35 = .ok (.ldc 96, 2) := by decide +kernel
theorem dX4_fees_37 : decode cX4_fees 37 = .ok (.if_icmp .ne 8, 3) := by decide +kernel
theorem dX4_fees_40 : decode cX4_fees 40 = .ok (.bipush (-4), 2) := by decide +kernel
theorem dX4_fees_42 : decode cX4_fees 42 = .ok (.goto 8, 3) := by decide +kernel
theorem dX4_fees_45 : decode cX4_fees 45 = .ok (.iload_n 3, 1) := by decide +kernel
theorem dX4_fees_46 : decode cX4_fees 46 = .ok (.sipush 10000, 3) := by decide +kernel
theorem dX4_fees_49 : decode cX4_fees 49 = .ok (.irem, 1) := by decide +kernel
theorem dX4_fees_50 : decode cX4_fees 50 = .ok (.ireturn, 1) := by decide +kernel
theorem dX4_drive_0 : decode cX4_drive 0 = .ok (.aload_n 0, 1) := by decide +kernel
theorem dX4_drive_1 : decode cX4_drive 1 = .ok (.getfield 40, 3) := by decide +kernel
theorem dX4_drive_4 : decode cX4_drive 4 = .ok (.bipush 6, 2) := by decide +kernel
theorem dX4_drive_6 : decode cX4_drive 6 = .ok (.if_icmp .lt 6, 3) := by decide +kernel
theorem dX4_drive_9 : decode cX4_drive 9 = .ok (.bipush (-2), 2) := by decide +kernel
theorem dX4_drive_11 : decode cX4_drive 11 = .ok (.ireturn, 1) := by decide +kernel
theorem dX4_drive_12 : decode cX4_drive 12 = .ok (.aload_n 0, 1) := by decide +kernel
theorem dX4_drive_13 : decode cX4_drive 13 = .ok (.getfield 36, 3) := by decide +kernel
theorem dX4_drive_16 : decode cX4_drive 16 = .ok (.aload_n 0, 1) := by decide +kernel
theorem dX4_drive_17 : decode cX4_drive 17 = .ok (.getfield 40, 3) := by decide +kernel
theorem dX4_drive_20 : decode cX4_drive 20 = .ok (.new 34, 3) := by decide +kernel
theorem dX4_drive_23 : decode cX4_drive 23 = .ok (.dup, 1) := by decide +kernel
theorem dX4_drive_24 : decode cX4_drive 24 = .ok (.invokespecial 97, 3) := by decide +kernel
theorem dX4_drive_27 : decode cX4_drive 27 = .ok (.aastore, 1) := by decide +kernel
theorem dX4_drive_28 : decode cX4_drive 28 = .ok (.aload_n 0, 1) := by decide +kernel
theorem dX4_drive_29 : decode cX4_drive 29 = .ok (.dup, 1) := by decide +kernel
theorem dX4_drive_30 : decode cX4_drive 30 = .ok (.getfield 40, 3) := by decide +kernel
theorem dX4_drive_33 : decode cX4_drive 33 = .ok (.iconst 1, 1) := by decide +kernel
theorem dX4_drive_34 : decode cX4_drive 34 = .ok (.iadd, 1) := by decide +kernel
theorem dX4_drive_35 : decode cX4_drive 35 = .ok (.putfield 40, 3) := by decide +kernel
theorem dX4_drive_38 : decode cX4_drive 38 = .ok (.aload_n 0, 1) := by decide +kernel
theorem dX4_drive_39 : decode cX4_drive 39 = .ok (.getfield 40, 3) := by decide +kernel
theorem dX4_drive_42 : decode cX4_drive 42 = .ok (.iconst 1, 1) := by decide +kernel
theorem dX4_drive_43 : decode cX4_drive 43 = .ok (.isub, 1) := by decide +kernel
theorem dX4_drive_44 : decode cX4_drive 44 = .ok (.ireturn, 1) := by decide +kernel
theorem dX4_sight_0 : decode cX4_sight 0 = .ok (.aload_n 0, 1) := by decide +kernel
theorem dX4_sight_1 : decode cX4_sight 1 = .ok (.iload_n 1, 1) := by decide +kernel
theorem dX4_sight_2 : decode cX4_sight 2 = .ok (.invokevirtual 98, 3) := by decide +kernel
theorem dX4_sight_5 : decode cX4_sight 5 = .ok (.astore 5, 2) := by decide +kernel
theorem dX4_sight_7 : decode cX4_sight 7 = .ok (.aload 5, 2) := by decide +kernel
theorem dX4_sight_9 : decode cX4_sight 9 = .ok (.ifnull 25, 3) := by decide +kernel
theorem dX4_sight_12 : decode cX4_sight 12 = .ok (.iload_n 2, 1) := by decide +kernel
theorem dX4_sight_13 : decode cX4_sight 13 = .ok (.iconst 0, 1) := by decide +kernel
theorem dX4_sight_14 : decode cX4_sight 14 = .ok (.sipush 9999, 3) := by decide +kernel
theorem dX4_sight_17 : decode cX4_sight 17 = .ok (.invokestatic 54, 3) := by decide +kernel
theorem dX4_sight_20 : decode cX4_sight 20 = .ok (.ifCond .eq 14, 3) := by decide +kernel
theorem dX4_sight_23 : decode cX4_sight 23 = .ok (.iload 4, 2) := by decide +kernel
theorem dX4_sight_25 : decode cX4_sight 25 = .ok (.iconst 0, 1) := by decide +kernel
theorem dX4_sight_26 : decode cX4_sight 26 = .ok (.bipush 60, 2) := by decide +kernel
theorem dX4_sight_28 : decode cX4_sight 28 = .ok (.invokestatic 54, 3) := by decide +kernel
theorem dX4_sight_31 : decode cX4_sight 31 = .ok (.ifCond .ne 5, 3) := by decide +kernel
theorem dX4_sight_34 : decode cX4_sight 34 = .ok (.iconst (-1), 1) := by decide +kernel
theorem dX4_sight_35 : decode cX4_sight 35 = .ok (.ireturn, 1) := by decide +kernel
theorem dX4_sight_36 : decode cX4_sight 36 = .ok (.iload_n 3, 1) := by decide +kernel
theorem dX4_sight_37 : decode cX4_sight 37 = .ok (.iconst 0, 1) := by decide +kernel
theorem dX4_sight_38 : decode cX4_sight 38 = .ok (.sipush 10000, 3) := by decide +kernel
theorem dX4_sight_41 : decode cX4_sight 41 = .ok (.invokestatic 54, 3) := by decide +kernel
theorem dX4_sight_44 : decode cX4_sight 44 = .ok (.ifCond .eq 12, 3) := by decide +kernel
theorem dX4_sight_47 : decode cX4_sight 47 = .ok (.iload_n 3, 1) := by decide +kernel
theorem dX4_sight_48 : decode cX4_sight 48 = .ok (.aload 5, 2) := by decide +kernel
theorem dX4_sight_50 : decode cX4_sight 50 = .ok (.invokevirtual 102, 3) := by decide +kernel
theorem dX4_sight_53 : decode cX4_sight 53 = .ok (.if_icmp .gt 5, 3) := by decide +kernel
theorem dX4_sight_56 : decode cX4_sight 56 = .ok (.iconst (-1), 1) := by decide +kernel
theorem dX4_sight_57 : decode cX4_sight 57 = .ok (.ireturn, 1) := by decide +kernel
theorem dX4_sight_58 : decode cX4_sight 58 = .ok (.aload_n 0, 1) := by decide +kernel
theorem dX4_sight_59 : decode cX4_sight 59 = .ok (.getfield 30, 3) := by decide +kernel
theorem dX4_sight_62 : decode cX4_sight 62 = .ok (.invokevirtual 106, 3) := by decide +kernel
theorem dX4_sight_65 : decode cX4_sight 65 = .ok (.aload 5, 2) := by decide +kernel
theorem dX4_sight_67 : decode cX4_sight 67 = .ok (.iload_n 2, 1) := by decide +kernel
theorem dX4_sight_68 : decode cX4_sight 68 = .ok (.bipush 100, 2) := by decide +kernel
theorem dX4_sight_70 : decode cX4_sight 70 = .ok (.idiv, 1) := by decide +kernel
theorem dX4_sight_71 : decode cX4_sight 71 = .ok (.iload_n 2, 1) := by decide +kernel
theorem dX4_sight_72 : decode cX4_sight 72 = .ok (.bipush 100, 2) := by decide +kernel
theorem dX4_sight_74 : decode cX4_sight 74 = .ok (.irem, 1) := by decide +kernel
theorem dX4_sight_75 : decode cX4_sight 75 = .ok (.iload_n 3, 1) := by decide +kernel
theorem dX4_sight_76 : decode cX4_sight 76 = .ok (.iload 4, 2) := by decide +kernel
theorem dX4_sight_78 : decode cX4_sight 78 = .ok (.invokevirtual 109, 3) := by decide +kernel
theorem dX4_sight_81 : decode cX4_sight 81 = .ok (.ireturn, 1) := by decide +kernel
theorem dX4_drop_0 : decode cX4_drop 0 = .ok (.aload_n 0, 1) := by decide +kernel
theorem dX4_drop_1 : decode cX4_drop 1 = .ok (.iload_n 1, 1) := by decide +kernel
theorem dX4_drop_2 : decode cX4_drop 2 = .ok (.invokevirtual 98, 3) := by decide +kernel
theorem dX4_drop_5 : decode cX4_drop 5 = .ok (.astore_n 2, 1) := by decide +kernel
theorem dX4_drop_6 : decode cX4_drop 6 = .ok (.aload_n 2, 1) := by decide +kernel
theorem dX4_drop_7 : decode cX4_drop 7 = .ok (.ifnonnull 5, 3) := by decide +kernel
theorem dX4_drop_10 : decode cX4_drop 10 = .ok (.iconst (-1), 1) := by decide +kernel
theorem dX4_drop_11 : decode cX4_drop 11 = .ok (.ireturn, 1) := by decide +kernel
theorem dX4_drop_12 : decode cX4_drop 12 = .ok (.aload_n 2, 1) := by decide +kernel
theorem dX4_drop_13 : decode cX4_drop 13 = .ok (.getfield 113, 3) := by decide +kernel
theorem dX4_drop_16 : decode cX4_drop 16 = .ok (.ifCond .ne 6, 3) := by decide +kernel
theorem dX4_drop_19 : decode cX4_drop 19 = .ok (.bipush (-3), 2) := by decide +kernel
theorem dX4_drop_21 : decode cX4_drop 21 = .ok (.ireturn, 1) := by decide +kernel
theorem dX4_drop_22 : decode cX4_drop 22 = .ok (.aload_n 0, 1) := by decide +kernel
theorem dX4_drop_23 : decode cX4_drop 23 = .ok (.getfield 30, 3) := by decide +kernel
theorem dX4_drop_26 : decode cX4_drop 26 = .ok (.invokevirtual 106, 3) := by decide +kernel
theorem dX4_drop_29 : decode cX4_drop 29 = .ok (.aload_n 2, 1) := by decide +kernel
theorem dX4_drop_30 : decode cX4_drop 30 = .ok (.dup, 1) := by decide +kernel
theorem dX4_drop_31 : decode cX4_drop 31 = .ok (.getfield 113, 3) := by decide +kernel
theorem dX4_drop_34 : decode cX4_drop 34 = .ok (.iconst 1, 1) := by decide +kernel
theorem dX4_drop_35 : decode cX4_drop 35 = .ok (.isub, 1) := by decide +kernel
theorem dX4_drop_36 : decode cX4_drop 36 = .ok (.putfield 113, 3) := by decide +kernel
theorem dX4_drop_39 : decode cX4_drop 39 = .ok (.aload_n 2, 1) := by decide +kernel
theorem dX4_drop_40 : decode cX4_drop 40 = .ok (.getfield 113, 3) := by decide +kernel
theorem dX4_drop_43 : decode cX4_drop 43 = .ok (.ireturn, 1) := by decide +kernel
theorem dX4_prices_0 : decode cX4_prices 0 = .ok (.iload_n 1, 1) := by decide +kernel
theorem dX4_prices_1 : decode cX4_prices 1 = .ok (.iconst 1, 1) := by decide +kernel
theorem dX4_prices_2 : decode cX4_prices 2 = .ok (.bipush 100, 2) := by decide +kernel
theorem dX4_prices_4 : decode cX4_prices 4 = .ok (.invokestatic 54, 3) := by decide +kernel
theorem dX4_prices_7 : decode cX4_prices 7 = .ok (.ifCond .eq 14, 3) := by decide +kernel
theorem dX4_prices_10 : decode cX4_prices 10 = .ok (.iload_n 2, 1) := by decide +kernel
theorem dX4_prices_11 : decode cX4_prices 11 = .ok (.iconst 1, 1) := by decide +kernel
theorem dX4_prices_12 : decode cX4_prices 12 = .ok (.sipush 9999, 3) := by decide +kernel
theorem dX4_prices_15 : decode cX4_prices 15 = .ok (.invokestatic 54, 3) := by decide +kernel
theorem dX4_prices_18 : decode cX4_prices 18 = .ok (.ifCond .ne 5, 3) := by decide +kernel
theorem dX4_prices_21 : decode cX4_prices 21 = .ok (.iconst (-1), 1) := by decide +kernel
theorem dX4_prices_22 : decode cX4_prices 22 = .ok (.ireturn, 1) := by decide +kernel
theorem dX4_prices_23 : decode cX4_prices 23 = .ok (.aload_n 0, 1) := by decide +kernel
theorem dX4_prices_24 : decode cX4_prices 24 = .ok (.getfield 30, 3) := by decide +kernel
theorem dX4_prices_27 : decode cX4_prices 27 = .ok (.invokevirtual 106, 3) := by decide +kernel
theorem dX4_prices_30 : decode cX4_prices 30 = .ok (.aload_n 0, 1) := by decide +kernel
theorem dX4_prices_31 : decode cX4_prices 31 = .ok (.getfield 30, 3) := by decide +kernel
theorem dX4_prices_34 : decode cX4_prices 34 = .ok (.iload_n 1, 1) := by decide +kernel
theorem dX4_prices_35 : decode cX4_prices 35 = .ok (.putfield 116, 3) := by decide +kernel
theorem dX4_prices_38 : decode cX4_prices 38 = .ok (.aload_n 0, 1) := by decide +kernel
theorem dX4_prices_39 : decode cX4_prices 39 = .ok (.getfield 30, 3) := by decide +kernel
theorem dX4_prices_42 : decode cX4_prices 42 = .ok (.iload_n 2, 1) := by decide +kernel
theorem dX4_prices_43 : decode cX4_prices 43 = .ok (.putfield 119, 3) := by decide +kernel
theorem dX4_prices_46 : decode cX4_prices 46 = .ok (.iconst 1, 1) := by decide +kernel
theorem dX4_prices_47 : decode cX4_prices 47 = .ok (.ireturn, 1) := by decide +kernel
theorem dX4_spot_0 : decode cX4_spot 0 = .ok (.aload_n 0, 1) := by decide +kernel
theorem dX4_spot_1 : decode cX4_spot 1 = .ok (.iload_n 1, 1) := by decide +kernel
theorem dX4_spot_2 : decode cX4_spot 2 = .ok (.invokevirtual 98, 3) := by decide +kernel
theorem dX4_spot_5 : decode cX4_spot 5 = .ok (.astore 4, 2) := by decide +kernel
theorem dX4_spot_7 : decode cX4_spot 7 = .ok (.aload 4, 2) := by decide +kernel
theorem dX4_spot_9 : decode cX4_spot 9 = .ok (.ifnull 12, 3) := by decide +kernel
theorem dX4_spot_12 : decode cX4_spot 12 = .ok (.aload 4, 2) := by decide +kernel
theorem dX4_spot_14 : decode cX4_spot 14 = .ok (.iload_n 2, 1) := by decide +kernel
theorem dX4_spot_15 : decode cX4_spot 15 = .ok (.invokevirtual 122, 3) := by decide +kernel
theorem dX4_spot_18 : decode cX4_spot 18 = .ok (.ifCond .ne 5, 3) := by decide +kernel
theorem dX4_spot_21 : decode cX4_spot 21 = .ok (.iconst (-1), 1) := by decide +kernel
theorem dX4_spot_22 : decode cX4_spot 22 = .ok (.ireturn, 1) := by decide +kernel
theorem dX4_spot_23 : decode cX4_spot 23 = .ok (.aload_n 0, 1) := by decide +kernel
theorem dX4_spot_24 : decode cX4_spot 24 = .ok (.getfield 30, 3) := by decide +kernel
theorem dX4_spot_27 : decode cX4_spot 27 = .ok (.aload 4, 2) := by decide +kernel
theorem dX4_spot_29 : decode cX4_spot 29 = .ok (.invokevirtual 125, 3) := by decide +kernel
theorem dX4_spot_32 : decode cX4_spot 32 = .ok (.aload_n 0, 1) := by decide +kernel
theorem dX4_spot_33 : decode cX4_spot 33 = .ok (.getfield 30, 3) := by decide +kernel
theorem dX4_spot_36 : decode cX4_spot 36 = .ok (.getfield 129, 3) := by decide +kernel
theorem dX4_spot_39 : decode cX4_spot 39 = .ok (.iload_n 2, 1) := by decide +kernel
theorem dX4_spot_40 : decode cX4_spot 40 = .ok (.iaload, 1) := by decide +kernel
theorem dX4_spot_41 : decode cX4_spot 41 = .ok (.istore 5, 2) := by decide +kernel
theorem dX4_spot_43 : decode cX4_spot 43 = .ok (.iload_n 3, 1) := by decide +kernel
theorem dX4_spot_44 : decode cX4_spot 44 = .ok (.iconst (-1), 1) := by decide +kernel
theorem dX4_spot_45 : decode cX4_spot 45 = .ok (.if_icmp .ne 6, 3) := by decide +kernel
theorem dX4_spot_48 : decode cX4_spot 48 = .ok (.iload 5, 2) := by decide +kernel
theorem dX4_spot_50 : decode cX4_spot 50 = .ok (.ireturn, 1) := by decide +kernel
theorem dX4_spot_51 : decode cX4_spot 51 = .ok (.iload_n 3, 1) := by decide +kernel
theorem dX4_spot_52 : decode cX4_spot 52 = .ok (.ifCond .lt 26, 3) := by decide +kernel
theorem dX4_spot_55 : decode cX4_spot 55 = .ok (.iload_n 3, 1) := by decide +kernel
theorem dX4_spot_56 : decode cX4_spot 56 = .ok (.iload 5, 2) := by decide +kernel
theorem dX4_spot_58 : decode cX4_spot 58 = .ok (.if_icmp .ge 20, 3) := by decide +kernel
theorem dX4_spot_61 : decode cX4_spot 61 = .ok (.aload_n 0, 1) := by decide +kernel
theorem dX4_spot_62 : decode cX4_spot 62 = .ok (.getfield 30, 3) := by decide +kernel
theorem dX4_spot_65 : decode cX4_spot 65 = .ok (.getfield 132, 3) := by decide +kernel
theorem dX4_spot_68 : decode cX4_spot 68 = .ok (.iload_n 2, 1) := by decide +kernel
theorem dX4_spot_69 : decode cX4_spot 69 = .ok (.bipush 10, 2) := by decide +kernel
theorem dX4_spot_71 : decode cX4_spot 71 = .ok (.imul, 1) := by decide +kernel
theorem dX4_spot_72 : decode cX4_spot 72 = .ok (.iload_n 3, 1) := by decide +kernel
theorem dX4_spot_73 : decode cX4_spot 73 = .ok (.iadd, 1) := by decide +kernel
theorem dX4_spot_74 : decode cX4_spot 74 = .ok (.iaload, 1) := by decide +kernel
theorem dX4_spot_75 : decode cX4_spot 75 = .ok (.goto 4, 3) := by decide +kernel
theorem dX4_spot_78 : decode cX4_spot 78 = .ok (.iconst (-1), 1) := by decide +kernel
theorem dX4_spot_79 : decode cX4_spot 79 = .ok (.ireturn, 1) := by decide +kernel
theorem dX4_off_0 : decode cX4_off 0 = .ok (.aload_n 0, 1) := by decide +kernel
theorem dX4_off_1 : decode cX4_off 1 = .ok (.iload_n 1, 1) := by decide +kernel
theorem dX4_off_2 : decode cX4_off 2 = .ok (.invokevirtual 98, 3) := by decide +kernel
theorem dX4_off_5 : decode cX4_off 5 = .ok (.astore 4, 2) := by decide +kernel
theorem dX4_off_7 : decode cX4_off 7 = .ok (.aload 4, 2) := by decide +kernel
theorem dX4_off_9 : decode cX4_off 9 = .ok (.ifnull 23, 3) := by decide +kernel
theorem dX4_off_12 : decode cX4_off 12 = .ok (.aload 4, 2) := by decide +kernel
theorem dX4_off_14 : decode cX4_off 14 = .ok (.iload_n 2, 1) := by decide +kernel
theorem dX4_off_15 : decode cX4_off 15 = .ok (.invokevirtual 122, 3) := by decide +kernel
theorem dX4_off_18 : decode cX4_off 18 = .ok (.ifCond .eq 14, 3) := by decide +kernel
theorem dX4_off_21 : decode cX4_off 21 = .ok (.aload_n 0, 1) := by decide +kernel
theorem dX4_off_22 : decode cX4_off 22 = .ok (.getfield 12, 3) := by decide +kernel
theorem dX4_off_25 : decode cX4_off 25 = .ok (.iload_n 3, 1) := by decide +kernel
theorem dX4_off_26 : decode cX4_off 26 = .ok (.invokevirtual 90, 3) := by decide +kernel
theorem dX4_off_29 : decode cX4_off 29 = .ok (.ifCond .ne 5, 3) := by decide +kernel
theorem dX4_off_32 : decode cX4_off 32 = .ok (.iconst (-1), 1) := by decide +kernel
theorem dX4_off_33 : decode cX4_off 33 = .ok (.ireturn, 1) := by decide +kernel
theorem dX4_off_34 : decode cX4_off 34 = .ok (.aload_n 0, 1) := by decide +kernel
theorem dX4_off_35 : decode cX4_off 35 = .ok (.getfield 12, 3) := by decide +kernel
theorem dX4_off_38 : decode cX4_off 38 = .ok (.iload_n 3, 1) := by decide +kernel
theorem dX4_off_39 : decode cX4_off 39 = .ok (.aload 4, 2) := by decide +kernel
theorem dX4_off_41 : decode cX4_off 41 = .ok (.getfield 135, 3) := by decide +kernel
theorem dX4_off_44 : decode cX4_off 44 = .ok (.iload_n 2, 1) := by decide +kernel
theorem dX4_off_45 : decode cX4_off 45 = .ok (.iaload, 1) := by decide +kernel
theorem dX4_off_46 : decode cX4_off 46 = .ok (.aload 4, 2) := by decide +kernel
theorem dX4_off_48 : decode cX4_off 48 = .ok (.getfield 138, 3) := by decide +kernel
theorem dX4_off_51 : decode cX4_off 51 = .ok (.iload_n 2, 1) := by decide +kernel
theorem dX4_off_52 : decode cX4_off 52 = .ok (.iaload, 1) := by decide +kernel
theorem dX4_off_53 : decode cX4_off 53 = .ok (.invokevirtual 141, 3) := by decide +kernel
theorem dX4_off_56 : decode cX4_off 56 = .ok (.ireturn, 1) := by decide +kernel
theorem dX4_cost_0 : decode cX4_cost 0 = .ok (.aload_n 0, 1) := by decide +kernel
theorem dX4_cost_1 : decode cX4_cost 1 = .ok (.getfield 30, 3) := by decide +kernel
theorem dX4_cost_4 : decode cX4_cost 4 = .ok (.aload_n 0, 1) := by decide +kernel
theorem dX4_cost_5 : decode cX4_cost 5 = .ok (.iload_n 1, 1) := by decide +kernel
theorem dX4_cost_6 : decode cX4_cost 6 = .ok (.invokevirtual 98, 3) := by decide +kernel
theorem dX4_cost_9 : decode cX4_cost 9 = .ok (.invokevirtual 145, 3) := by decide +kernel
theorem dX4_cost_12 : decode cX4_cost 12 = .ok (.ireturn, 1) := by decide +kernel
theorem dX4_laid_0 : decode cX4_laid 0 = .ok (.aload_n 0, 1) := by decide +kernel
theorem dX4_laid_1 : decode cX4_laid 1 = .ok (.iload_n 1, 1) := by decide +kernel
theorem dX4_laid_2 : decode cX4_laid 2 = .ok (.invokevirtual 98, 3) := by decide +kernel
theorem dX4_laid_5 : decode cX4_laid 5 = .ok (.astore_n 3, 1) := by decide +kernel
theorem dX4_laid_6 : decode cX4_laid 6 = .ok (.aload_n 3, 1) := by decide +kernel
theorem dX4_laid_7 : decode cX4_laid 7 = .ok (.ifnull 11, 3) := by decide +kernel
theorem dX4_laid_10 : decode cX4_laid 10 = .ok (.aload_n 3, 1) := by decide +kernel
theorem dX4_laid_11 : decode cX4_laid 11 = .ok (.iload_n 2, 1) := by decide +kernel
theorem dX4_laid_12 : decode cX4_laid 12 = .ok (.invokevirtual 122, 3) := by decide +kernel
theorem dX4_laid_15 : decode cX4_laid 15 = .ok (.ifCond .ne 5, 3) := by decide +kernel
theorem dX4_laid_18 : decode cX4_laid 18 = .ok (.iconst (-1), 1) := by decide +kernel
theorem dX4_laid_19 : decode cX4_laid 19 = .ok (.ireturn, 1) := by decide +kernel
theorem dX4_laid_20 : decode cX4_laid 20 = .ok (.aload_n 0, 1) := by decide +kernel
theorem dX4_laid_21 : decode cX4_laid 21 = .ok (.getfield 30, 3) := by decide +kernel
theorem dX4_laid_24 : decode cX4_laid 24 = .ok (.aload_n 3, 1) := by decide +kernel
theorem dX4_laid_25 : decode cX4_laid 25 = .ok (.invokevirtual 145, 3) := by decide +kernel
theorem dX4_laid_28 : decode cX4_laid 28 = .ok (.pop, 1) := by decide +kernel
theorem dX4_laid_29 : decode cX4_laid 29 = .ok (.aload_n 0, 1) := by decide +kernel
theorem dX4_laid_30 : decode cX4_laid 30 = .ok (.getfield 30, 3) := by decide +kernel
theorem dX4_laid_33 : decode cX4_laid 33 = .ok (.getfield 149, 3) := by decide +kernel
theorem dX4_laid_36 : decode cX4_laid 36 = .ok (.iload_n 2, 1) := by decide +kernel
theorem dX4_laid_37 : decode cX4_laid 37 = .ok (.iaload, 1) := by decide +kernel
theorem dX4_laid_38 : decode cX4_laid 38 = .ok (.ireturn, 1) := by decide +kernel
theorem dX4_check_0 : decode cX4_check 0 = .ok (.aload_n 0, 1) := by decide +kernel
theorem dX4_check_1 : decode cX4_check 1 = .ok (.iload_n 1, 1) := by decide +kernel
theorem dX4_check_2 : decode cX4_check 2 = .ok (.invokevirtual 98, 3) := by decide +kernel
theorem dX4_check_5 : decode cX4_check 5 = .ok (.astore_n 2, 1) := by decide +kernel
theorem dX4_check_6 : decode cX4_check 6 = .ok (.aload_n 2, 1) := by decide +kernel
theorem dX4_check_7 : decode cX4_check 7 = .ok (.ifnonnull 5, 3) := by decide +kernel
theorem dX4_check_10 : decode cX4_check 10 = .ok (.iconst (-1), 1) := by decide +kernel
theorem dX4_check_11 : decode cX4_check 11 = .ok (.ireturn, 1) := by decide +kernel
theorem dX4_check_12 : decode cX4_check 12 = .ok (.aload_n 0, 1) := by decide +kernel
theorem dX4_check_13 : decode cX4_check 13 = .ok (.getfield 48, 3) := by decide +kernel
theorem dX4_check_16 : decode cX4_check 16 = .ok (.istore_n 3, 1) := by decide +kernel
theorem dX4_check_17 : decode cX4_check 17 = .ok (.aload_n 0, 1) := by decide +kernel
theorem dX4_check_18 : decode cX4_check 18 = .ok (.iconst 0, 1) := by decide +kernel
theorem dX4_check_19 : decode cX4_check 19 = .ok (.putfield 48, 3) := by decide +kernel
theorem dX4_check_22 : decode cX4_check 22 = .ok (.iload_n 3, 1) := by decide +kernel
theorem dX4_check_23 : decode cX4_check 23 = .ok (.aload_n 2, 1) := by decide +kernel
theorem dX4_check_24 : decode cX4_check 24 = .ok (.getfield 113, 3) := by decide +kernel
theorem dX4_check_27 : decode cX4_check 27 = .ok (.if_icmp .eq 6, 3) := by decide +kernel
theorem dX4_check_30 : decode cX4_check 30 = .ok (.bipush (-3), 2) := by decide +kernel
theorem dX4_check_32 : decode cX4_check 32 = .ok (.ireturn, 1) := by decide +kernel
theorem dX4_check_33 : decode cX4_check 33 = .ok (.aload_n 0, 1) := by decide +kernel
theorem dX4_check_34 : decode cX4_check 34 = .ok (.getfield 30, 3) := by decide +kernel
theorem dX4_check_37 : decode cX4_check 37 = .ok (.aload_n 2, 1) := by decide +kernel
theorem dX4_check_38 : decode cX4_check 38 = .ok (.invokevirtual 125, 3) := by decide +kernel
theorem dX4_check_41 : decode cX4_check 41 = .ok (.aload_n 0, 1) := by decide +kernel
theorem dX4_check_42 : decode cX4_check 42 = .ok (.getfield 30, 3) := by decide +kernel
theorem dX4_check_45 : decode cX4_check 45 = .ok (.aload_n 0, 1) := by decide +kernel
theorem dX4_check_46 : decode cX4_check 46 = .ok (.getfield 44, 3) := by decide +kernel
theorem dX4_check_49 : decode cX4_check 49 = .ok (.invokevirtual 152, 3) := by decide +kernel
theorem dX4_check_52 : decode cX4_check 52 = .ok (.ifCond .eq 17, 3) := by decide +kernel
theorem dX4_check_55 : decode cX4_check 55 = .ok (.aload_n 0, 1) := by decide +kernel
theorem dX4_check_56 : decode cX4_check 56 = .ok (.getfield 30, 3) := by decide +kernel
theorem dX4_check_59 : decode cX4_check 59 = .ok (.aload_n 0, 1) := by decide +kernel
theorem dX4_check_60 : decode cX4_check 60 = .ok (.getfield 44, 3) := by decide +kernel
theorem dX4_check_63 : decode cX4_check 63 = .ok (.invokevirtual 156, 3) := by decide +kernel
theorem dX4_check_66 : decode cX4_check 66 = .ok (.goto 5, 3) := by decide +kernel
theorem dX4_check_69 : decode cX4_check 69 = .ok (.bipush (-3), 2) := by decide +kernel
theorem dX4_check_71 : decode cX4_check 71 = .ok (.ireturn, 1) := by decide +kernel
theorem dX4_list_0 : decode cX4_list 0 = .ok (.iload_n 1, 1) := by decide +kernel
theorem dX4_list_1 : decode cX4_list 1 = .ok (.bipush (-5), 2) := by decide +kernel
theorem dX4_list_3 : decode cX4_list 3 = .ok (.if_icmp .eq 16, 3) := by decide +kernel
theorem dX4_list_6 : decode cX4_list 6 = .ok (.aload_n 0, 1) := by decide +kernel
theorem dX4_list_7 : decode cX4_list 7 = .ok (.getfield 12, 3) := by decide +kernel
theorem dX4_list_10 : decode cX4_list 10 = .ok (.iload_n 1, 1) := by decide +kernel
theorem dX4_list_11 : decode cX4_list 11 = .ok (.invokevirtual 90, 3) := by decide +kernel
theorem dX4_list_14 : decode cX4_list 14 = .ok (.ifCond .ne 5, 3) := by decide +kernel
theorem dX4_list_17 : decode cX4_list 17 = .ok (.iconst (-1), 1) := by decide +kernel
theorem dX4_list_18 : decode cX4_list 18 = .ok (.ireturn, 1) := by decide +kernel
theorem dX4_list_19 : decode cX4_list 19 = .ok (.aload_n 0, 1) := by decide +kernel
theorem dX4_list_20 : decode cX4_list 20 = .ok (.getfield 48, 3) := by decide +kernel
theorem dX4_list_23 : decode cX4_list 23 = .ok (.bipush 20, 2) := by decide +kernel
theorem dX4_list_25 : decode cX4_list 25 = .ok (.if_icmp .lt 6, 3) := by decide +kernel
theorem dX4_list_28 : decode cX4_list 28 = .ok (.bipush (-2), 2) := by decide +kernel
theorem dX4_list_30 : decode cX4_list 30 = .ok (.ireturn, 1) := by decide +kernel
theorem dX4_list_31 : decode cX4_list 31 = .ok (.aload_n 0, 1) := by decide +kernel
theorem dX4_list_32 : decode cX4_list 32 = .ok (.getfield 44, 3) := by decide +kernel
theorem dX4_list_35 : decode cX4_list 35 = .ok (.aload_n 0, 1) := by decide +kernel
theorem dX4_list_36 : decode cX4_list 36 = .ok (.getfield 48, 3) := by decide +kernel
theorem dX4_list_39 : decode cX4_list 39 = .ok (.iload_n 1, 1) := by decide +kernel
theorem dX4_list_40 : decode cX4_list 40 = .ok (.iastore, 1) := by decide +kernel
theorem dX4_list_41 : decode cX4_list 41 = .ok (.aload_n 0, 1) := by decide +kernel
theorem dX4_list_42 : decode cX4_list 42 = .ok (.dup, 1) := by decide +kernel
theorem dX4_list_43 : decode cX4_list 43 = .ok (.getfield 48, 3) := by decide +kernel
theorem dX4_list_46 : decode cX4_list 46 = .ok (.iconst 1, 1) := by decide +kernel
theorem dX4_list_47 : decode cX4_list 47 = .ok (.iadd, 1) := by decide +kernel
theorem dX4_list_48 : decode cX4_list 48 = .ok (.putfield 48, 3) := by decide +kernel
theorem dX4_list_51 : decode cX4_list 51 = .ok (.aload_n 0, 1) := by decide +kernel
theorem dX4_list_52 : decode cX4_list 52 = .ok (.getfield 48, 3) := by decide +kernel
theorem dX4_list_55 : decode cX4_list 55 = .ok (.ireturn, 1) := by decide +kernel
theorem dX4_sure_0 : decode cX4_sure 0 = .ok (.aload_n 0, 1) := by decide +kernel
theorem dX4_sure_1 : decode cX4_sure 1 = .ok (.iload_n 1, 1) := by decide +kernel
theorem dX4_sure_2 : decode cX4_sure 2 = .ok (.invokevirtual 98, 3) := by decide +kernel
theorem dX4_sure_5 : decode cX4_sure 5 = .ok (.astore_n 3, 1) := by decide +kernel
theorem dX4_sure_6 : decode cX4_sure 6 = .ok (.aload_n 3, 1) := by decide +kernel
theorem dX4_sure_7 : decode cX4_sure 7 = .ok (.ifnull 13, 3) := by decide +kernel
theorem dX4_sure_10 : decode cX4_sure 10 = .ok (.iload_n 2, 1) := by decide +kernel
theorem dX4_sure_11 : decode cX4_sure 11 = .ok (.iconst 0, 1) := by decide +kernel
theorem dX4_sure_12 : decode cX4_sure 12 = .ok (.ldc 160, 2) := by decide +kernel
theorem dX4_sure_14 : decode cX4_sure 14 = .ok (.invokestatic 54, 3) := by decide +kernel
theorem dX4_sure_17 : decode cX4_sure 17 = .ok (.ifCond .ne 5, 3) := by decide +kernel
theorem dX4_sure_20 : decode cX4_sure 20 = .ok (.iconst (-1), 1) := by decide +kernel
theorem dX4_sure_21 : decode cX4_sure 21 = .ok (.ireturn, 1) := by decide +kernel
theorem dX4_sure_22 : decode cX4_sure 22 = .ok (.aload_n 0, 1) := by decide +kernel
theorem dX4_sure_23 : decode cX4_sure 23 = .ok (.getfield 30, 3) := by decide +kernel
theorem dX4_sure_26 : decode cX4_sure 26 = .ok (.aload_n 0, 1) := by decide +kernel
theorem dX4_sure_27 : decode cX4_sure 27 = .ok (.getfield 30, 3) := by decide +kernel
theorem dX4_sure_30 : decode cX4_sure 30 = .ok (.aload_n 3, 1) := by decide +kernel
theorem dX4_sure_31 : decode cX4_sure 31 = .ok (.invokevirtual 145, 3) := by decide +kernel
theorem dX4_sure_34 : decode cX4_sure 34 = .ok (.iload_n 2, 1) := by decide +kernel
theorem dX4_sure_35 : decode cX4_sure 35 = .ok (.iadd, 1) := by decide +kernel
theorem dX4_sure_36 : decode cX4_sure 36 = .ok (.invokevirtual 161, 3) := by decide +kernel
theorem dX4_sure_39 : decode cX4_sure 39 = .ok (.ireturn, 1) := by decide +kernel
theorem dX4_toll_0 : decode cX4_toll 0 = .ok (.aload_n 0, 1) := by decide +kernel
theorem dX4_toll_1 : decode cX4_toll 1 = .ok (.iload_n 1, 1) := by decide +kernel
theorem dX4_toll_2 : decode cX4_toll 2 = .ok (.invokevirtual 98, 3) := by decide +kernel
theorem dX4_toll_5 : decode cX4_toll 5 = .ok (.astore_n 2, 1) := by decide +kernel
theorem dX4_toll_6 : decode cX4_toll 6 = .ok (.aload_n 2, 1) := by decide +kernel
theorem dX4_toll_7 : decode cX4_toll 7 = .ok (.ifnonnull 5, 3) := by decide +kernel
theorem dX4_toll_10 : decode cX4_toll 10 = .ok (.iconst (-1), 1) := by decide +kernel
theorem dX4_toll_11 : decode cX4_toll 11 = .ok (.ireturn, 1) := by decide +kernel
theorem dX4_toll_12 : decode cX4_toll 12 = .ok (.aload_n 0, 1) := by decide +kernel
theorem dX4_toll_13 : decode cX4_toll 13 = .ok (.getfield 30, 3) := by decide +kernel
theorem dX4_toll_16 : decode cX4_toll 16 = .ok (.aload_n 2, 1) := by decide +kernel
theorem dX4_toll_17 : decode cX4_toll 17 = .ok (.invokevirtual 145, 3) := by decide +kernel
theorem dX4_toll_20 : decode cX4_toll 20 = .ok (.pop, 1) := by decide +kernel
theorem dX4_toll_21 : decode cX4_toll 21 = .ok (.aload_n 0, 1) := by decide +kernel
theorem dX4_toll_22 : decode cX4_toll 22 = .ok (.getfield 30, 3) := by decide +kernel
theorem dX4_toll_25 : decode cX4_toll 25 = .ok (.invokevirtual 165, 3) := by decide +kernel
theorem dX4_toll_28 : decode cX4_toll 28 = .ok (.ireturn, 1) := by decide +kernel
theorem dX4_speed_0 : decode cX4_speed 0 = .ok (.aload_n 0, 1) := by decide +kernel
theorem dX4_speed_1 : decode cX4_speed 1 = .ok (.iload_n 1, 1) := by decide +kernel
theorem dX4_speed_2 : decode cX4_speed 2 = .ok (.invokevirtual 98, 3) := by decide +kernel
theorem dX4_speed_5 : decode cX4_speed 5 = .ok (.astore_n 3, 1) := by decide +kernel
theorem dX4_speed_6 : decode cX4_speed 6 = .ok (.aload_n 3, 1) := by decide +kernel
theorem dX4_speed_7 : decode cX4_speed 7 = .ok (.ifnull 11, 3) := by decide +kernel
theorem dX4_speed_10 : decode cX4_speed 10 = .ok (.aload_n 3, 1) := by decide +kernel
theorem dX4_speed_11 : decode cX4_speed 11 = .ok (.iload_n 2, 1) := by decide +kernel
theorem dX4_speed_12 : decode cX4_speed 12 = .ok (.invokevirtual 122, 3) := by decide +kernel
theorem dX4_speed_15 : decode cX4_speed 15 = .ok (.ifCond .ne 5, 3) := by decide +kernel
theorem dX4_speed_18 : decode cX4_speed 18 = .ok (.iconst (-1), 1) := by decide +kernel
theorem dX4_speed_19 : decode cX4_speed 19 = .ok (.ireturn, 1) := by decide +kernel
theorem dX4_speed_20 : decode cX4_speed 20 = .ok (.aload_n 0, 1) := by decide +kernel
theorem dX4_speed_21 : decode cX4_speed 21 = .ok (.getfield 30, 3) := by decide +kernel
theorem dX4_speed_24 : decode cX4_speed 24 = .ok (.aload_n 3, 1) := by decide +kernel
theorem dX4_speed_25 : decode cX4_speed 25 = .ok (.invokevirtual 145, 3) := by decide +kernel
theorem dX4_speed_28 : decode cX4_speed 28 = .ok (.pop, 1) := by decide +kernel
theorem dX4_speed_29 : decode cX4_speed 29 = .ok (.aload_n 0, 1) := by decide +kernel
theorem dX4_speed_30 : decode cX4_speed 30 = .ok (.getfield 30, 3) := by decide +kernel
theorem dX4_speed_33 : decode cX4_speed 33 = .ok (.iload_n 2, 1) := by decide +kernel
theorem dX4_speed_34 : decode cX4_speed 34 = .ok (.invokevirtual 168, 3) := by decide +kernel
theorem dX4_speed_37 : decode cX4_speed 37 = .ok (.ireturn, 1) := by decide +kernel
theorem dX4_against_0 : decode cX4_against 0 = .ok (.aload_n 0, 1) := by decide +kernel
theorem dX4_against_1 : decode cX4_against 1 = .ok (.getfield 12, 3) := by decide +kernel
theorem dX4_against_4 : decode cX4_against 4 = .ok (.iload_n 1, 1) := by decide +kernel
theorem dX4_against_5 : decode cX4_against 5 = .ok (.invokevirtual 77, 3) := by decide +kernel
theorem dX4_against_8 : decode cX4_against 8 = .ok (.ifCond .ne 5, 3) := by decide +kernel
theorem dX4_against_11 : decode cX4_against 11 = .ok (.iconst (-1), 1) := by decide +kernel
theorem dX4_against_12 : decode cX4_against 12 = .ok (.ireturn, 1) := by decide +kernel
theorem dX4_against_13 : decode cX4_against 13 = .ok (.aload_n 0, 1) := by decide +kernel
theorem dX4_against_14 : decode cX4_against 14 = .ok (.getfield 12, 3) := by decide +kernel
theorem dX4_against_17 : decode cX4_against 17 = .ok (.getfield 171, 3) := by decide +kernel
theorem dX4_against_20 : decode cX4_against 20 = .ok (.iload_n 1, 1) := by decide +kernel
theorem dX4_against_21 : decode cX4_against 21 = .ok (.iaload, 1) := by decide +kernel
theorem dX4_against_22 : decode cX4_against 22 = .ok (.iconst 1, 1) := by decide +kernel
theorem dX4_against_23 : decode cX4_against 23 = .ok (.if_icmp .eq 6, 3) := by decide +kernel
theorem dX4_against_26 : decode cX4_against 26 = .ok (.bipush (-3), 2) := by decide +kernel
theorem dX4_against_28 : decode cX4_against 28 = .ok (.ireturn, 1) := by decide +kernel
theorem dX4_against_29 : decode cX4_against 29 = .ok (.iconst 0, 1) := by decide +kernel
theorem dX4_against_30 : decode cX4_against 30 = .ok (.istore_n 2, 1) := by decide +kernel
theorem dX4_against_31 : decode cX4_against 31 = .ok (.iload_n 2, 1) := by decide +kernel
theorem dX4_against_32 : decode cX4_against 32 = .ok (.aload_n 0, 1) := by decide +kernel
theorem dX4_against_33 : decode cX4_against 33 = .ok (.getfield 40, 3) := by decide +kernel
theorem dX4_against_36 : decode cX4_against 36 = .ok (.if_icmp .ge 28, 3) := by decide +kernel
theorem dX4_against_39 : decode cX4_against 39 = .ok (.aload_n 0, 1) := by decide +kernel
theorem dX4_against_40 : decode cX4_against 40 = .ok (.getfield 51, 3) := by decide +kernel
theorem dX4_against_43 : decode cX4_against 43 = .ok (.iload_n 2, 1) := by decide +kernel
theorem dX4_against_44 : decode cX4_against 44 = .ok (.aload_n 0, 1) := by decide +kernel
theorem dX4_against_45 : decode cX4_against 45 = .ok (.getfield 30, 3) := by decide +kernel
theorem dX4_against_48 : decode cX4_against 48 = .ok (.aload_n 0, 1) := by decide +kernel
theorem dX4_against_49 : decode cX4_against 49 = .ok (.getfield 36, 3) := by decide +kernel
theorem dX4_against_52 : decode cX4_against 52 = .ok (.iload_n 2, 1) := by decide +kernel
theorem dX4_against_53 : decode cX4_against 53 = .ok (.aaload, 1) := by decide +kernel
theorem dX4_against_54 : decode cX4_against 54 = .ok (.invokevirtual 145, 3) := by decide +kernel
theorem dX4_against_57 : decode cX4_against 57 = .ok (.iastore, 1) := by decide +kernel
theorem dX4_against_58 : decode cX4_against 58 = .ok (.iinc 2 1, 3) := by decide +kernel
theorem dX4_against_61 : decode cX4_against 61 = .ok (.goto (-30), 3) := by decide +kernel
theorem dX4_against_64 : decode cX4_against 64 = .ok (.aload_n 0, 1) := by decide +kernel
theorem dX4_against_65 : decode cX4_against 65 = .ok (.iload_n 1, 1) := by decide +kernel
theorem dX4_against_66 : decode cX4_against 66 = .ok (.iconst 0, 1) := by decide +kernel
theorem dX4_against_67 : decode cX4_against 67 = .ok (.invokevirtual 174, 3) := by decide +kernel
theorem dX4_against_70 : decode cX4_against 70 = .ok (.iconst 0, 1) := by decide +kernel
theorem dX4_against_71 : decode cX4_against 71 = .ok (.istore_n 2, 1) := by decide +kernel
theorem dX4_against_72 : decode cX4_against 72 = .ok (.iconst 0, 1) := by decide +kernel
theorem dX4_against_73 : decode cX4_against 73 = .ok (.istore_n 3, 1) := by decide +kernel
theorem dX4_against_74 : decode cX4_against 74 = .ok (.iload_n 3, 1) := by decide +kernel
theorem dX4_against_75 : decode cX4_against 75 = .ok (.aload_n 0, 1) := by decide +kernel
theorem dX4_against_76 : decode cX4_against 76 = .ok (.getfield 40, 3) := by decide +kernel
theorem dX4_against_79 : decode cX4_against 79 = .ok (.if_icmp .ge 34, 3) := by decide +kernel
theorem dX4_against_82 : decode cX4_against 82 = .ok (.aload_n 0, 1) := by decide +kernel
theorem dX4_against_83 : decode cX4_against 83 = .ok (.getfield 30, 3) := by decide +kernel
theorem dX4_against_86 : decode cX4_against 86 = .ok (.aload_n 0, 1) := by decide +kernel
theorem dX4_against_87 : decode cX4_against 87 = .ok (.getfield 36, 3) := by decide +kernel
theorem dX4_against_90 : decode cX4_against 90 = .ok (.iload_n 3, 1) := by decide +kernel
theorem dX4_against_91 : decode cX4_against 91 = .ok (.aaload, 1) := by decide +kernel
theorem dX4_against_92 : decode cX4_against 92 = .ok (.invokevirtual 145, 3) := by decide +kernel
theorem dX4_against_95 : decode cX4_against 95 = .ok (.aload_n 0, 1) := by decide +kernel
theorem dX4_against_96 : decode cX4_against 96 = .ok (.getfield 51, 3) := by decide +kernel
theorem dX4_against_99 : decode cX4_against 99 = .ok (.iload_n 3, 1) := by decide +kernel
theorem dX4_against_100 : decode cX4_against 100 = .ok (.iaload, 1) := by decide +kernel
theorem dX4_against_101 : decode cX4_against 101 = .ok (.if_icmp .ge 6, 3) := by decide +kernel
theorem dX4_against_104 : decode cX4_against 104 = .ok (.iinc 2 1, 3) := by decide +kernel
theorem dX4_against_107 : decode cX4_against 107 = .ok (.iinc 3 1, 3) := by decide +kernel
theorem dX4_against_110 : decode cX4_against 110 = .ok (.goto (-36), 3) := by decide +kernel
theorem dX4_against_113 : decode cX4_against 113 = .ok (.aload_n 0, 1) := by decide +kernel
theorem dX4_against_114 : decode cX4_against 114 = .ok (.iload_n 1, 1) := by decide +kernel
theorem dX4_against_115 : decode cX4_against 115 = .ok (.iconst 1, 1) := by decide +kernel
theorem dX4_against_116 : decode cX4_against 116 = .ok (.invokevirtual 174, 3) := by decide +kernel
theorem dX4_against_119 : decode cX4_against 119 = .ok (.iload_n 2, 1) := by decide +kernel
theorem dX4_against_120 : decode cX4_against 120 = .ok (.ireturn, 1) := by decide +kernel
theorem dX4_count_0 : decode cX4_count 0 = .ok (.iload_n 1, 1) := by decide +kernel
theorem dX4_count_1 : decode cX4_count 1 = .ok (.tableswitch 66 0 4 #[35, 43, 51, 56, 61], 35) := by decide +kernel
theorem dX4_count_36 : decode cX4_count 36 = .ok (.aload_n 0, 1) := by decide +kernel
theorem dX4_count_37 : decode cX4_count 37 = .ok (.getfield 12, 3) := by decide +kernel
theorem dX4_count_40 : decode cX4_count 40 = .ok (.getfield 178, 3) := by decide +kernel
theorem dX4_count_43 : decode cX4_count 43 = .ok (.ireturn, 1) := by decide +kernel
theorem dX4_count_44 : decode cX4_count 44 = .ok (.aload_n 0, 1) := by decide +kernel
theorem dX4_count_45 : decode cX4_count 45 = .ok (.getfield 12, 3) := by decide +kernel
theorem dX4_count_48 : decode cX4_count 48 = .ok (.getfield 181, 3) := by decide +kernel
theorem dX4_count_51 : decode cX4_count 51 = .ok (.ireturn, 1) := by decide +kernel
theorem dX4_count_52 : decode cX4_count 52 = .ok (.aload_n 0, 1) := by decide +kernel
theorem dX4_count_53 : decode cX4_count 53 = .ok (.getfield 40, 3) := by decide +kernel
theorem dX4_count_56 : decode cX4_count 56 = .ok (.ireturn, 1) := by decide +kernel
theorem dX4_count_57 : decode cX4_count 57 = .ok (.aload_n 0, 1) := by decide +kernel
theorem dX4_count_58 : decode cX4_count 58 = .ok (.invokevirtual 184, 3) := by decide +kernel
theorem dX4_count_61 : decode cX4_count 61 = .ok (.ireturn, 1) := by decide +kernel
theorem dX4_count_62 : decode cX4_count 62 = .ok (.aload_n 0, 1) := by decide +kernel
theorem dX4_count_63 : decode cX4_count 63 = .ok (.getfield 48, 3) := by decide +kernel
theorem dX4_count_66 : decode cX4_count 66 = .ok (.ireturn, 1) := by decide +kernel
theorem dX4_count_67 : decode cX4_count 67 = .ok (.iconst (-1), 1) := by decide +kernel
theorem dX4_count_68 : decode cX4_count 68 = .ok (.ireturn, 1) := by decide +kernel
theorem dX4_isWithin_0 : decode cX4_isWithin 0 = .ok (.iload_n 0, 1) := by decide +kernel
theorem dX4_isWithin_1 : decode cX4_isWithin 1 = .ok (.iload_n 1, 1) := by decide +kernel
theorem dX4_isWithin_2 : decode cX4_isWithin 2 = .ok (.if_icmp .lt 12, 3) := by decide +kernel
theorem dX4_isWithin_5 : decode cX4_isWithin 5 = .ok (.iload_n 0, 1) := by decide +kernel
theorem dX4_isWithin_6 : decode cX4_isWithin 6 = .ok (.iload_n 2, 1) := by decide +kernel
theorem dX4_isWithin_7 : decode cX4_isWithin 7 = .ok (.if_icmp .gt 7, 3) := by decide +kernel
theorem dX4_isWithin_10 : decode cX4_isWithin 10 = .ok (.iconst 1, 1) := by decide +kernel
theorem dX4_isWithin_11 : decode cX4_isWithin 11 = .ok (.goto 4, 3) := by decide +kernel
theorem dX4_isWithin_14 : decode cX4_isWithin 14 = .ok (.iconst 0, 1) := by decide +kernel
theorem dX4_isWithin_15 : decode cX4_isWithin 15 = .ok (.ireturn, 1) := by decide +kernel
theorem dX4_isFeeOfKind_0 : decode cX4_isFeeOfKind 0 = .ok (.iload_n 1, 1) := by decide +kernel
theorem dX4_isFeeOfKind_1 : decode cX4_isFeeOfKind 1 = .ok (.iconst 3, 1) := by decide +kernel
theorem dX4_isFeeOfKind_2 : decode cX4_isFeeOfKind 2 = .ok (.if_icmp .ne 13, 3) := by decide +kernel
theorem dX4_isFeeOfKind_5 : decode cX4_isFeeOfKind 5 = .ok (.iload_n 0, 1) := by decide +kernel
theorem dX4_isFeeOfKind_6 : decode cX4_isFeeOfKind 6 = .ok (.iconst 1, 1) := by decide +kernel
theorem dX4_isFeeOfKind_7 : decode cX4_isFeeOfKind 7 = .ok (.bipush 99, 2) := by decide +kernel
theorem dX4_isFeeOfKind_9 : decode cX4_isFeeOfKind 9 = .ok (.invokestatic 54, 3) := by decide +kernel
theorem dX4_isFeeOfKind_12 : decode cX4_isFeeOfKind 12 = .ok (.goto 12, 3) := by decide +kernel
theorem dX4_isFeeOfKind_15 : decode cX4_isFeeOfKind 15 = .ok (.iload_n 0, 1) := by decide +kernel
theorem dX4_isFeeOfKind_16 : decode cX4_isFeeOfKind 16 = .ok (.ifCond .ne 7, 3) := by decide +kernel
theorem dX4_isFeeOfKind_19 : decode cX4_isFeeOfKind 19 = .ok (.iconst 1, 1) := by decide +kernel
theorem dX4_isFeeOfKind_20 : decode cX4_isFeeOfKind 20 = .ok (.goto 4, 3) := by decide +kernel
theorem dX4_isFeeOfKind_23 : decode cX4_isFeeOfKind 23 = .ok (.iconst 0, 1) := by decide +kernel
theorem dX4_isFeeOfKind_24 : decode cX4_isFeeOfKind 24 = .ok (.ireturn, 1) := by decide +kernel
theorem dX4_findDrive_0 : decode cX4_findDrive 0 = .ok (.iload_n 1, 1) := by decide +kernel
theorem dX4_findDrive_1 : decode cX4_findDrive 1 = .ok (.ifCond .lt 20, 3) := by decide +kernel
theorem dX4_findDrive_4 : decode cX4_findDrive 4 = .ok (.iload_n 1, 1) := by decide +kernel
theorem dX4_findDrive_5 : decode cX4_findDrive 5 = .ok (.aload_n 0, 1) := by decide +kernel
theorem dX4_findDrive_6 : decode cX4_findDrive 6 = .ok (.getfield 40, 3) := by decide +kernel
theorem dX4_findDrive_9 : decode cX4_findDrive 9 = .ok (.if_icmp .ge 12, 3) := by decide +kernel
theorem dX4_findDrive_12 : decode cX4_findDrive 12 = .ok (.aload_n 0, 1) := by decide +kernel
theorem dX4_findDrive_13 : decode cX4_findDrive 13 = .ok (.getfield 36, 3) := by decide +kernel
theorem dX4_findDrive_16 : decode cX4_findDrive 16 = .ok (.iload_n 1, 1) := by decide +kernel
theorem dX4_findDrive_17 : decode cX4_findDrive 17 = .ok (.aaload, 1) := by decide +kernel
theorem dX4_findDrive_18 : decode cX4_findDrive 18 = .ok (.goto 4, 3) := by decide +kernel
theorem dX4_findDrive_21 : decode cX4_findDrive 21 = .ok (.aconst_null, 1) := by decide +kernel
theorem dX4_findDrive_22 : decode cX4_findDrive 22 = .ok (.areturn, 1) := by decide +kernel
theorem dX4_countSights_0 : decode cX4_countSights 0 = .ok (.iconst 0, 1) := by decide +kernel
theorem dX4_countSights_1 : decode cX4_countSights 1 = .ok (.istore_n 1, 1) := by decide +kernel
theorem dX4_countSights_2 : decode cX4_countSights 2 = .ok (.iconst 0, 1) := by decide +kernel
theorem dX4_countSights_3 : decode cX4_countSights 3 = .ok (.istore_n 2, 1) := by decide +kernel
theorem dX4_countSights_4 : decode cX4_countSights 4 = .ok (.iload_n 2, 1) := by decide +kernel
theorem dX4_countSights_5 : decode cX4_countSights 5 = .ok (.aload_n 0, 1) := by decide +kernel
theorem dX4_countSights_6 : decode cX4_countSights 6 = .ok (.getfield 40, 3) := by decide +kernel
theorem dX4_countSights_9 : decode cX4_countSights 9 = .ok (.if_icmp .ge 26, 3) := by decide +kernel
theorem dX4_countSights_12 : decode cX4_countSights 12 = .ok (.aload_n 0, 1) := by decide +kernel
theorem dX4_countSights_13 : decode cX4_countSights 13 = .ok (.iload_n 2, 1) := by decide +kernel
theorem dX4_countSights_14 : decode cX4_countSights 14 = .ok (.invokevirtual 98, 3) := by decide +kernel
theorem dX4_countSights_17 : decode cX4_countSights 17 = .ok (.astore_n 3, 1) := by decide +kernel
theorem dX4_countSights_18 : decode cX4_countSights 18 = .ok (.aload_n 3, 1) := by decide +kernel
theorem dX4_countSights_19 : decode cX4_countSights 19 = .ok (.ifnull 10, 3) := by decide +kernel
theorem dX4_countSights_22 : decode cX4_countSights 22 = .ok (.iload_n 1, 1) := by decide +kernel
theorem dX4_countSights_23 : decode cX4_countSights 23 = .ok (.aload_n 3, 1) := by decide +kernel
theorem dX4_countSights_24 : decode cX4_countSights 24 = .ok (.getfield 113, 3) := by decide +kernel
theorem dX4_countSights_27 : decode cX4_countSights 27 = .ok (.iadd, 1) := by decide +kernel
theorem dX4_countSights_28 : decode cX4_countSights 28 = .ok (.istore_n 1, 1) := by decide +kernel
theorem dX4_countSights_29 : decode cX4_countSights 29 = .ok (.iinc 2 1, 3) := by decide +kernel
theorem dX4_countSights_32 : decode cX4_countSights 32 = .ok (.goto (-28), 3) := by decide +kernel
theorem dX4_countSights_35 : decode cX4_countSights 35 = .ok (.iload_n 1, 1) := by decide +kernel
theorem dX4_countSights_36 : decode cX4_countSights 36 = .ok (.ireturn, 1) := by decide +kernel
theorem dX4_changeKind_0 : decode cX4_changeKind 0 = .ok (.aload_n 0, 1) := by decide +kernel
theorem dX4_changeKind_1 : decode cX4_changeKind 1 = .ok (.invokevirtual 70, 3) := by decide +kernel
theorem dX4_changeKind_4 : decode cX4_changeKind 4 = .ok (.aload_n 0, 1) := by decide +kernel
theorem dX4_changeKind_5 : decode cX4_changeKind 5 = .ok (.getfield 12, 3) := by decide +kernel
theorem dX4_changeKind_8 : decode cX4_changeKind 8 = .ok (.iload_n 1, 1) := by decide +kernel
theorem dX4_changeKind_9 : decode cX4_changeKind 9 = .ok (.iload_n 2, 1) := by decide +kernel
theorem dX4_changeKind_10 : decode cX4_changeKind 10 = .ok (.invokevirtual 187, 3) := by decide +kernel
theorem dX4_changeKind_13 : decode cX4_changeKind 13 = .ok (.return_, 1) := by decide +kernel
theorem dX4_forgetWays_0 : decode cX4_forgetWays 0 = .ok (.aload_n 0, 1) := by decide +kernel
theorem dX4_forgetWays_1 : decode cX4_forgetWays 1 = .ok (.getfield 21, 3) := by decide +kernel
theorem dX4_forgetWays_4 : decode cX4_forgetWays 4 = .ok (.invokevirtual 190, 3) := by decide +kernel
theorem dX4_forgetWays_7 : decode cX4_forgetWays 7 = .ok (.aload_n 0, 1) := by decide +kernel
theorem dX4_forgetWays_8 : decode cX4_forgetWays 8 = .ok (.getfield 30, 3) := by decide +kernel
theorem dX4_forgetWays_11 : decode cX4_forgetWays 11 = .ok (.invokevirtual 106, 3) := by decide +kernel
theorem dX4_forgetWays_14 : decode cX4_forgetWays 14 = .ok (.return_, 1) := by decide +kernel
