theorem dX0_init_0 : decode cX0_init 0 = .ok (.aload_n 0, 1) := by decide +kernel
theorem dX0_init_1 : decode cX0_init 1 = .ok (.invokespecial 3, 3) := by decide +kernel
theorem dX0_init_4 : decode cX0_init 4 = .ok (.aload_n 0, 1) := by decide +kernel
theorem dX0_init_5 : decode cX0_init 5 = .ok (.bipush 20, 2) := by decide +kernel
theorem dX0_init_7 : decode cX0_init 7 = .ok (.newarray .int, 2) := by decide +kernel
theorem dX0_init_9 : decode cX0_init 9 = .ok (.putfield 9, 3) := by decide +kernel
theorem dX0_init_12 : decode cX0_init 12 = .ok (.aload_n 0, 1) := by decide +kernel
theorem dX0_init_13 : decode cX0_init 13 = .ok (.bipush 20, 2) := by decide +kernel
theorem dX0_init_15 : decode cX0_init 15 = .ok (.newarray .int, 2) := by decide +kernel
theorem dX0_init_17 : decode cX0_init 17 = .ok (.putfield 15, 3) := by decide +kernel
theorem dX0_init_20 : decode cX0_init 20 = .ok (.aload_n 0, 1) := by decide +kernel
theorem dX0_init_21 : decode cX0_init 21 = .ok (.bipush 20, 2) := by decide +kernel
theorem dX0_init_23 : decode cX0_init 23 = .ok (.newarray .int, 2) := by decide +kernel
theorem dX0_init_25 : decode cX0_init 25 = .ok (.putfield 18, 3) := by decide +kernel
theorem dX0_init_28 : decode cX0_init 28 = .ok (.aload_n 0, 1) := by decide +kernel
theorem dX0_init_29 : decode cX0_init 29 = .ok (.bipush 20, 2) := by decide +kernel
theorem dX0_init_31 : decode cX0_init 31 = .ok (.newarray .int, 2) := by decide +kernel
theorem dX0_init_33 : decode cX0_init 33 = .ok (.putfield 21, 3) := by decide +kernel
theorem dX0_init_36 : decode cX0_init 36 = .ok (.return_, 1) := by decide +kernel
theorem dX0_hasSight_0 : decode cX0_hasSight 0 = .ok (.iload_n 1, 1) := by decide +kernel
theorem dX0_hasSight_1 : decode cX0_hasSight 1 = .ok (.ifCond .lt 15, 3) := by decide +kernel
theorem dX0_hasSight_4 : decode cX0_hasSight 4 = .ok (.iload_n 1, 1) := by decide +kernel
theorem dX0_hasSight_5 : decode cX0_hasSight 5 = .ok (.aload_n 0, 1) := by decide +kernel
theorem dX0_hasSight_6 : decode cX0_hasSight 6 = .ok (.getfield 24, 3) := by decide +kernel
theorem dX0_hasSight_9 : decode cX0_hasSight 9 = .ok (.if_icmp .ge 7, 3) := by decide +kernel
theorem dX0_hasSight_12 : decode cX0_hasSight 12 = .ok (.iconst 1, 1) := by decide +kernel
theorem dX0_hasSight_13 : decode cX0_hasSight 13 = .ok (.goto 4, 3) := by decide +kernel
theorem dX0_hasSight_16 : decode cX0_hasSight 16 = .ok (.iconst 0, 1) := by decide +kernel
theorem dX0_hasSight_17 : decode cX0_hasSight 17 = .ok (.ireturn, 1) := by decide +kernel
theorem dX0_lastTick_0 : decode cX0_lastTick 0 = .ok (.aload_n 0, 1) := by decide +kernel
theorem dX0_lastTick_1 : decode cX0_lastTick 1 = .ok (.getfield 24, 3) := by decide +kernel
theorem dX0_lastTick_4 : decode cX0_lastTick 4 = .ok (.ifCond .le 17, 3) := by decide +kernel
theorem dX0_lastTick_7 : decode cX0_lastTick 7 = .ok (.aload_n 0, 1) := by decide +kernel
theorem dX0_lastTick_8 : decode cX0_lastTick 8 = .ok (.getfield 18, 3) := by decide +kernel
theorem dX0_lastTick_11 : decode cX0_lastTick 11 = .ok (.aload_n 0, 1) := by decide +kernel
theorem dX0_lastTick_12 : decode cX0_lastTick 12 = .ok (.getfield 24, 3) := by decide +kernel
theorem dX0_lastTick_15 : decode cX0_lastTick 15 = .ok (.iconst 1, 1) := by decide +kernel
theorem dX0_lastTick_16 : decode cX0_lastTick 16 = .ok (.isub, 1) := by decide +kernel
theorem dX0_lastTick_17 : decode cX0_lastTick 17 = .ok (.iaload, 1) := by decide +kernel
theorem dX0_lastTick_18 : decode cX0_lastTick 18 = .ok (.goto 4, 3) := by decide +kernel
theorem dX0_lastTick_21 : decode cX0_lastTick 21 = .ok (.iconst (-1), 1) := by decide +kernel
theorem dX0_lastTick_22 : decode cX0_lastTick 22 = .ok (.ireturn, 1) := by decide +kernel
theorem dX0_addSight_0 : decode cX0_addSight 0 = .ok (.aload_n 0, 1) := by decide +kernel
theorem dX0_addSight_1 : decode cX0_addSight 1 = .ok (.getfield 24, 3) := by decide +kernel
theorem dX0_addSight_4 : decode cX0_addSight 4 = .ok (.bipush 20, 2) := by decide +kernel
theorem dX0_addSight_6 : decode cX0_addSight 6 = .ok (.if_icmp .lt 6, 3) := by decide +kernel
theorem dX0_addSight_9 : decode cX0_addSight 9 = .ok (.bipush (-2), 2) := by decide +kernel
theorem dX0_addSight_11 : decode cX0_addSight 11 = .ok (.ireturn, 1) := by decide +kernel
theorem dX0_addSight_12 : decode cX0_addSight 12 = .ok (.aload_n 0, 1) := by decide +kernel
theorem dX0_addSight_13 : decode cX0_addSight 13 = .ok (.getfield 9, 3) := by decide +kernel
theorem dX0_addSight_16 : decode cX0_addSight 16 = .ok (.aload_n 0, 1) := by decide +kernel
theorem dX0_addSight_17 : decode cX0_addSight 17 = .ok (.getfield 24, 3) := by decide +kernel
theorem dX0_addSight_20 : decode cX0_addSight 20 = .ok (.iload_n 1, 1) := by decide +kernel
theorem dX0_addSight_21 : decode cX0_addSight 21 = .ok (.iastore, 1) := by decide +kernel
theorem dX0_addSight_22 : decode cX0_addSight 22 = .ok (.aload_n 0, 1) := by decide +kernel
theorem dX0_addSight_23 : decode cX0_addSight 23 = .ok (.getfield 15, 3) := by decide +kernel
theorem dX0_addSight_26 : decode cX0_addSight 26 = .ok (.aload_n 0, 1) := by decide +kernel
theorem dX0_addSight_27 : decode cX0_addSight 27 = .ok (.getfield 24, 3) := by decide +kernel
theorem dX0_addSight_30 : decode cX0_addSight 30 = .ok (.iload_n 2, 1) := by decide +kernel
theorem dX0_addSight_31 : decode cX0_addSight 31 = .ok (.iastore, 1) := by decide +kernel
theorem dX0_addSight_32 : decode cX0_addSight 32 = .ok (.aload_n 0, 1) := by decide +kernel
theorem dX0_addSight_33 : decode cX0_addSight 33 = .ok (.getfield 18, 3) := by decide +kernel
theorem dX0_addSight_36 : decode cX0_addSight 36 = .ok (.aload_n 0, 1) := by decide +kernel
theorem dX0_addSight_37 : decode cX0_addSight 37 = .ok (.getfield 24, 3) := by decide +kernel
theorem dX0_addSight_40 : decode cX0_addSight 40 = .ok (.iload_n 3, 1) := by decide +kernel
theorem dX0_addSight_41 : decode cX0_addSight 41 = .ok (.iastore, 1) := by decide +kernel
theorem dX0_addSight_42 : decode cX0_addSight 42 = .ok (.aload_n 0, 1) := by decide +kernel
theorem dX0_addSight_43 : decode cX0_addSight 43 = .ok (.getfield 21, 3) := by decide +kernel
theorem dX0_addSight_46 : decode cX0_addSight 46 = .ok (.aload_n 0, 1) := by decide +kernel
theorem dX0_addSight_47 : decode cX0_addSight 47 = .ok (.getfield 24, 3) := by decide +kernel
theorem dX0_addSight_50 : decode cX0_addSight 50 = .ok (.iload 4, 2) := by decide +kernel
theorem dX0_addSight_52 : decode cX0_addSight 52 = .ok (.iastore, 1) := by decide +kernel
theorem dX0_addSight_53 : decode cX0_addSight 53 = .ok (.aload_n 0, 1) := by decide +kernel
theorem dX0_addSight_54 : decode cX0_addSight 54 = .ok (.dup, 1) := by decide +kernel
theorem dX0_addSight_55 : decode cX0_addSight 55 = .ok (.getfield 24, 3) := by decide +kernel
theorem dX0_addSight_58 : decode cX0_addSight 58 = .ok (.iconst 1, 1) := by decide +kernel
theorem dX0_addSight_59 : decode cX0_addSight 59 = .ok (.iadd, 1) := by decide +kernel
theorem dX0_addSight_60 : decode cX0_addSight 60 = .ok (.putfield 24, 3) := by decide +kernel
theorem dX0_addSight_63 : decode cX0_addSight 63 = .ok (.aload_n 0, 1) := by decide +kernel
theorem dX0_addSight_64 : decode cX0_addSight 64 = .ok (.getfield 24, 3) := by decide +kernel
theorem dX0_addSight_67 : decode cX0_addSight 67 = .ok (.iconst 1, 1) := by decide +kernel
theorem dX0_addSight_68 : decode cX0_addSight 68 = .ok (.isub, 1) := by decide +kernel
theorem dX0_addSight_69 : decode cX0_addSight 69 = .ok (.ireturn, 1) := by decide +kernel
theorem dX2_init_0 : decode cX2_init 0 = .ok (.aload_n 0, 1) := by decide +kernel
theorem dX2_init_1 : decode cX2_init 1 = .ok (.invokespecial 3, 3) := by decide +kernel
theorem dX2_init_4 : decode cX2_init 4 = .ok (.aload_n 0, 1) := by decide +kernel
theorem dX2_init_5 : decode cX2_init 5 = .ok (.bipush 16, 2) := by decide +kernel
theorem dX2_init_7 : decode cX2_init 7 = .ok (.newarray .int, 2) := by decide +kernel
theorem dX2_init_9 : decode cX2_init 9 = .ok (.putfield 9, 3) := by decide +kernel
theorem dX2_init_12 : decode cX2_init 12 = .ok (.aload_n 0, 1) := by decide +kernel
theorem dX2_init_13 : decode cX2_init 13 = .ok (.bipush 16, 2) := by decide +kernel
theorem dX2_init_15 : decode cX2_init 15 = .ok (.newarray .int, 2) := by decide +kernel
theorem dX2_init_17 : decode cX2_init 17 = .ok (.putfield 15, 3) := by decide +kernel
theorem dX2_init_20 : decode cX2_init 20 = .ok (.aload_n 0, 1) := by decide +kernel
theorem dX2_init_21 : decode cX2_init 21 = .ok (.bipush 30, 2) := by decide +kernel
theorem dX2_init_23 : decode cX2_init 23 = .ok (.newarray .int, 2) := by decide +kernel
theorem dX2_init_25 : decode cX2_init 25 = .ok (.putfield 18, 3) := by decide +kernel
theorem dX2_init_28 : decode cX2_init 28 = .ok (.aload_n 0, 1) := by decide +kernel
theorem dX2_init_29 : decode cX2_init 29 = .ok (.bipush 30, 2) := by decide +kernel
theorem dX2_init_31 : decode cX2_init 31 = .ok (.newarray .int, 2) := by decide +kernel
theorem dX2_init_33 : decode cX2_init 33 = .ok (.putfield 21, 3) := by decide +kernel
theorem dX2_init_36 : decode cX2_init 36 = .ok (.aload_n 0, 1) := by decide +kernel
theorem dX2_init_37 : decode cX2_init 37 = .ok (.bipush 30, 2) := by decide +kernel
theorem dX2_init_39 : decode cX2_init 39 = .ok (.newarray .int, 2) := by decide +kernel
theorem dX2_init_41 : decode cX2_init 41 = .ok (.putfield 24, 3) := by decide +kernel
theorem dX2_init_44 : decode cX2_init 44 = .ok (.aload_n 0, 1) := by decide +kernel
theorem dX2_init_45 : decode cX2_init 45 = .ok (.bipush 30, 2) := by decide +kernel
theorem dX2_init_47 : decode cX2_init 47 = .ok (.newarray .int, 2) := by decide +kernel
theorem dX2_init_49 : decode cX2_init 49 = .ok (.putfield 27, 3) := by decide +kernel
theorem dX2_init_52 : decode cX2_init 52 = .ok (.aload_n 0, 1) := by decide +kernel
theorem dX2_init_53 : decode cX2_init 53 = .ok (.bipush 60, 2) := by decide +kernel
theorem dX2_init_55 : decode cX2_init 55 = .ok (.newarray .int, 2) := by decide +kernel
theorem dX2_init_57 : decode cX2_init 57 = .ok (.putfield 30, 3) := by decide +kernel
theorem dX2_init_60 : decode cX2_init 60 = .ok (.aload_n 0, 1) := by decide +kernel
theorem dX2_init_61 : decode cX2_init 61 = .ok (.bipush 60, 2) := by decide +kernel
theorem dX2_init_63 : decode cX2_init 63 = .ok (.newarray .int, 2) := by decide +kernel
theorem dX2_init_65 : decode cX2_init 65 = .ok (.putfield 33, 3) := by decide +kernel
theorem dX2_init_68 : decode cX2_init 68 = .ok (.return_, 1) := by decide +kernel
theorem dX2_hasKnot_0 : decode cX2_hasKnot 0 = .ok (.iload_n 1, 1) := by decide +kernel
theorem dX2_hasKnot_1 : decode cX2_hasKnot 1 = .ok (.ifCond .lt 15, 3) := by decide +kernel
theorem dX2_hasKnot_4 : decode cX2_hasKnot 4 = .ok (.iload_n 1, 1) := by decide +kernel
theorem dX2_hasKnot_5 : decode cX2_hasKnot 5 = .ok (.aload_n 0, 1) := by decide +kernel
theorem dX2_hasKnot_6 : decode cX2_hasKnot 6 = .ok (.getfield 36, 3) := by decide +kernel
theorem dX2_hasKnot_9 : decode cX2_hasKnot 9 = .ok (.if_icmp .ge 7, 3) := by decide +kernel
theorem dX2_hasKnot_12 : decode cX2_hasKnot 12 = .ok (.iconst 1, 1) := by decide +kernel
theorem dX2_hasKnot_13 : decode cX2_hasKnot 13 = .ok (.goto 4, 3) := by decide +kernel
theorem dX2_hasKnot_16 : decode cX2_hasKnot 16 = .ok (.iconst 0, 1) := by decide +kernel
theorem dX2_hasKnot_17 : decode cX2_hasKnot 17 = .ok (.ireturn, 1) := by decide +kernel
theorem dX2_hasRoad_0 : decode cX2_hasRoad 0 = .ok (.iload_n 1, 1) := by decide +kernel
theorem dX2_hasRoad_1 : decode cX2_hasRoad 1 = .ok (.ifCond .lt 15, 3) := by decide +kernel
theorem dX2_hasRoad_4 : decode cX2_hasRoad 4 = .ok (.iload_n 1, 1) := by decide +kernel
theorem dX2_hasRoad_5 : decode cX2_hasRoad 5 = .ok (.aload_n 0, 1) := by decide +kernel
theorem dX2_hasRoad_6 : decode cX2_hasRoad 6 = .ok (.getfield 40, 3) := by decide +kernel
theorem dX2_hasRoad_9 : decode cX2_hasRoad 9 = .ok (.if_icmp .ge 7, 3) := by decide +kernel
theorem dX2_hasRoad_12 : decode cX2_hasRoad 12 = .ok (.iconst 1, 1) := by decide +kernel
theorem dX2_hasRoad_13 : decode cX2_hasRoad 13 = .ok (.goto 4, 3) := by decide +kernel
theorem dX2_hasRoad_16 : decode cX2_hasRoad 16 = .ok (.iconst 0, 1) := by decide +kernel
theorem dX2_hasRoad_17 : decode cX2_hasRoad 17 = .ok (.ireturn, 1) := by decide +kernel
theorem dX2_hasPoint_0 : decode cX2_hasPoint 0 = .ok (.iload_n 1, 1) := by decide +kernel
theorem dX2_hasPoint_1 : decode cX2_hasPoint 1 = .ok (.ifCond .lt 17, 3) := by decide +kernel
theorem dX2_hasPoint_4 : decode cX2_hasPoint 4 = .ok (.iload_n 1, 1) := by decide +kernel
theorem dX2_hasPoint_5 : decode cX2_hasPoint 5 = .ok (.iconst 5, 1) := by decide +kernel
theorem dX2_hasPoint_6 : decode cX2_hasPoint 6 = .ok (.aload_n 0, 1) := by decide +kernel
theorem dX2_hasPoint_7 : decode cX2_hasPoint 7 = .ok (.getfield 40, 3) := by decide +kernel
theorem dX2_hasPoint_10 : decode cX2_hasPoint 10 = .ok (.imul, 1) := by decide +kernel
theorem dX2_hasPoint_11 : decode cX2_hasPoint 11 = .ok (.if_icmp .ge 7, 3) := by decide +kernel
theorem dX2_hasPoint_14 : decode cX2_hasPoint 14 = .ok (.iconst 1, 1) := by decide +kernel
theorem dX2_hasPoint_15 : decode cX2_hasPoint 15 = .ok (.goto 4, 3) := by decide +kernel
theorem dX2_hasPoint_18 : decode cX2_hasPoint 18 = .ok (.iconst 0, 1) := by decide +kernel
theorem dX2_hasPoint_19 : decode cX2_hasPoint 19 = .ok (.ireturn, 1) := by decide +kernel
theorem dX2_addKnot_0 : decode cX2_addKnot 0 = .ok (.aload_n 0, 1) := by decide +kernel
theorem dX2_addKnot_1 : decode cX2_addKnot 1 = .ok (.getfield 36, 3) := by decide +kernel
theorem dX2_addKnot_4 : decode cX2_addKnot 4 = .ok (.bipush 16, 2) := by decide +kernel
theorem dX2_addKnot_6 : decode cX2_addKnot 6 = .ok (.if_icmp .lt 6, 3) := by decide +kernel
theorem dX2_addKnot_9 : decode cX2_addKnot 9 = .ok (.bipush (-2), 2) := by decide +kernel
theorem dX2_addKnot_11 : decode cX2_addKnot 11 = .ok (.ireturn, 1) := by decide +kernel
theorem dX2_addKnot_12 : decode cX2_addKnot 12 = .ok (.aload_n 0, 1) := by decide +kernel
theorem dX2_addKnot_13 : decode cX2_addKnot 13 = .ok (.getfield 9, 3) := by decide +kernel
theorem dX2_addKnot_16 : decode cX2_addKnot 16 = .ok (.aload_n 0, 1) := by decide +kernel
theorem dX2_addKnot_17 : decode cX2_addKnot 17 = .ok (.getfield 36, 3) := by decide +kernel
theorem dX2_addKnot_20 : decode cX2_addKnot 20 = .ok (.iload_n 1, 1) := by decide +kernel
theorem dX2_addKnot_21 : decode cX2_addKnot 21 = .ok (.iastore, 1) := by decide +kernel
theorem dX2_addKnot_22 : decode cX2_addKnot 22 = .ok (.aload_n 0, 1) := by decide +kernel
theorem dX2_addKnot_23 : decode cX2_addKnot 23 = .ok (.getfield 15, 3) := by decide +kernel
theorem dX2_addKnot_26 : decode cX2_addKnot 26 = .ok (.aload_n 0, 1) := by decide +kernel
theorem dX2_addKnot_27 : decode cX2_addKnot 27 = .ok (.getfield 36, 3) := by decide +kernel
theorem dX2_addKnot_30 : decode cX2_addKnot 30 = .ok (.iload_n 2, 1) := by decide +kernel
theorem dX2_addKnot_31 : decode cX2_addKnot 31 = .ok (.iastore, 1) := by decide +kernel
theorem dX2_addKnot_32 : decode cX2_addKnot 32 = .ok (.aload_n 0, 1) := by decide +kernel
theorem dX2_addKnot_33 : decode cX2_addKnot 33 = .ok (.dup, 1) := by decide +kernel
theorem dX2_addKnot_34 : decode cX2_addKnot 34 = .ok (.getfield 36, 3) := by decide +kernel
theorem dX2_addKnot_37 : decode cX2_addKnot 37 = .ok (.iconst 1, 1) := by decide +kernel
theorem dX2_addKnot_38 : decode cX2_addKnot 38 = .ok (.iadd, 1) := by decide +kernel
theorem dX2_addKnot_39 : decode cX2_addKnot 39 = .ok (.putfield 36, 3) := by decide +kernel
theorem dX2_addKnot_42 : decode cX2_addKnot 42 = .ok (.aload_n 0, 1) := by decide +kernel
theorem dX2_addKnot_43 : decode cX2_addKnot 43 = .ok (.getfield 36, 3) := by decide +kernel
theorem dX2_addKnot_46 : decode cX2_addKnot 46 = .ok (.iconst 1, 1) := by decide +kernel
theorem dX2_addKnot_47 : decode cX2_addKnot 47 = .ok (.isub, 1) := by decide +kernel
theorem dX2_addKnot_48 : decode cX2_addKnot 48 = .ok (.ireturn, 1) := by decide +kernel
theorem dX2_addRoad_0 : decode cX2_addRoad 0 = .ok (.aload_n 0, 1) := by decide +kernel
theorem dX2_addRoad_1 : decode cX2_addRoad 1 = .ok (.getfield 40, 3) := by decide +kernel
theorem dX2_addRoad_4 : decode cX2_addRoad 4 = .ok (.bipush 30, 2) := by decide +kernel
theorem dX2_addRoad_6 : decode cX2_addRoad 6 = .ok (.if_icmp .lt 6, 3) := by decide +kernel
theorem dX2_addRoad_9 : decode cX2_addRoad 9 = .ok (.bipush (-2), 2) := by decide +kernel
theorem dX2_addRoad_11 : decode cX2_addRoad 11 = .ok (.ireturn, 1) := by decide +kernel
theorem dX2_addRoad_12 : decode cX2_addRoad 12 = .ok (.aload_n 0, 1) := by decide +kernel
theorem dX2_addRoad_13 : decode cX2_addRoad 13 = .ok (.getfield 40, 3) := by decide +kernel
theorem dX2_addRoad_16 : decode cX2_addRoad 16 = .ok (.istore 6, 2) := by decide +kernel
theorem dX2_addRoad_18 : decode cX2_addRoad 18 = .ok (.aload_n 0, 1) := by decide +kernel
theorem dX2_addRoad_19 : decode cX2_addRoad 19 = .ok (.dup, 1) := by decide +kernel
theorem dX2_addRoad_20 : decode cX2_addRoad 20 = .ok (.getfield 40, 3) := by decide +kernel
theorem dX2_addRoad_23 : decode cX2_addRoad 23 = .ok (.iconst 1, 1) := by decide +kernel
theorem dX2_addRoad_24 : decode cX2_addRoad 24 = .ok (.iadd, 1) := by decide +kernel
theorem dX2_addRoad_25 : decode cX2_addRoad 25 = .ok (.putfield 40, 3) := by decide +kernel
theorem dX2_addRoad_28 : decode cX2_addRoad 28 = .ok (.aload_n 0, 1) := by decide +kernel
theorem dX2_addRoad_29 : decode cX2_addRoad 29 = .ok (.getfield 18, 3) := by decide +kernel
theorem dX2_addRoad_32 : decode cX2_addRoad 32 = .ok (.iload 6, 2) := by decide +kernel
theorem dX2_addRoad_34 : decode cX2_addRoad 34 = .ok (.iload_n 3, 1) := by decide +kernel
theorem dX2_addRoad_35 : decode cX2_addRoad 35 = .ok (.iastore, 1) := by decide +kernel
theorem dX2_addRoad_36 : decode cX2_addRoad 36 = .ok (.aload_n 0, 1) := by decide +kernel
theorem dX2_addRoad_37 : decode cX2_addRoad 37 = .ok (.getfield 24, 3) := by decide +kernel
theorem dX2_addRoad_40 : decode cX2_addRoad 40 = .ok (.iload 6, 2) := by decide +kernel
theorem dX2_addRoad_42 : decode cX2_addRoad 42 = .ok (.iload 5, 2) := by decide +kernel
theorem dX2_addRoad_44 : decode cX2_addRoad 44 = .ok (.iastore, 1) := by decide +kernel
theorem dX2_addRoad_45 : decode cX2_addRoad 45 = .ok (.aload_n 0, 1) := by decide +kernel
theorem dX2_addRoad_46 : decode cX2_addRoad 46 = .ok (.getfield 33, 3) := by decide +kernel
theorem dX2_addRoad_49 : decode cX2_addRoad 49 = .ok (.iconst 2, 1) := by decide +kernel
theorem dX2_addRoad_50 : decode cX2_addRoad 50 = .ok (.iload 6, 2) := by decide +kernel
theorem dX2_addRoad_52 : decode cX2_addRoad 52 = .ok (.imul, 1) := by decide +kernel
theorem dX2_addRoad_53 : decode cX2_addRoad 53 = .ok (.iload_n 1, 1) := by decide +kernel
theorem dX2_addRoad_54 : decode cX2_addRoad 54 = .ok (.iastore, 1) := by decide +kernel
theorem dX2_addRoad_55 : decode cX2_addRoad 55 = .ok (.aload_n 0, 1) := by decide +kernel
theorem dX2_addRoad_56 : decode cX2_addRoad 56 = .ok (.getfield 33, 3) := by decide +kernel
theorem dX2_addRoad_59 : decode cX2_addRoad 59 = .ok (.iconst 2, 1) := by decide +kernel
theorem dX2_addRoad_60 : decode cX2_addRoad 60 = .ok (.iload 6, 2) := by decide +kernel
theorem dX2_addRoad_62 : decode cX2_addRoad 62 = .ok (.imul, 1) := by decide +kernel
theorem dX2_addRoad_63 : decode cX2_addRoad 63 = .ok (.iconst 1, 1) := by decide +kernel
theorem dX2_addRoad_64 : decode cX2_addRoad 64 = .ok (.iadd, 1) := by decide +kernel
theorem dX2_addRoad_65 : decode cX2_addRoad 65 = .ok (.iload_n 2, 1) := by decide +kernel
theorem dX2_addRoad_66 : decode cX2_addRoad 66 = .ok (.iastore, 1) := by decide +kernel
theorem dX2_addRoad_67 : decode cX2_addRoad 67 = .ok (.aload_n 0, 1) := by decide +kernel
theorem dX2_addRoad_68 : decode cX2_addRoad 68 = .ok (.getfield 30, 3) := by decide +kernel
theorem dX2_addRoad_71 : decode cX2_addRoad 71 = .ok (.iconst 2, 1) := by decide +kernel
theorem dX2_addRoad_72 : decode cX2_addRoad 72 = .ok (.iload 6, 2) := by decide +kernel
theorem dX2_addRoad_74 : decode cX2_addRoad 74 = .ok (.imul, 1) := by decide +kernel
theorem dX2_addRoad_75 : decode cX2_addRoad 75 = .ok (.iconst 1, 1) := by decide +kernel
theorem dX2_addRoad_76 : decode cX2_addRoad 76 = .ok (.iadd, 1) := by decide +kernel
theorem dX2_addRoad_77 : decode cX2_addRoad 77 = .ok (.iload_n 1, 1) := by decide +kernel
theorem dX2_addRoad_78 : decode cX2_addRoad 78 = .ok (.iastore, 1) := by decide +kernel
theorem dX2_addRoad_79 : decode cX2_addRoad 79 = .ok (.aload_n 0, 1) := by decide +kernel
theorem dX2_addRoad_80 : decode cX2_addRoad 80 = .ok (.iload 6, 2) := by decide +kernel
theorem dX2_addRoad_82 : decode cX2_addRoad 82 = .ok (.iload 4, 2) := by decide +kernel
theorem dX2_addRoad_84 : decode cX2_addRoad 84 = .ok (.invokevirtual 43, 3) := by decide +kernel
theorem dX2_addRoad_87 : decode cX2_addRoad 87 = .ok (.iload 6, 2) := by decide +kernel
theorem dX2_addRoad_89 : decode cX2_addRoad 89 = .ok (.ireturn, 1) := by decide +kernel
theorem dX2_setKind_0 : decode cX2_setKind 0 = .ok (.aload_n 0, 1) := by decide +kernel
theorem dX2_setKind_1 : decode cX2_setKind 1 = .ok (.getfield 21, 3) := by decide +kernel
theorem dX2_setKind_4 : decode cX2_setKind 4 = .ok (.iload_n 1, 1) := by decide +kernel
theorem dX2_setKind_5 : decode cX2_setKind 5 = .ok (.iload_n 2, 1) := by decide +kernel
theorem dX2_setKind_6 : decode cX2_setKind 6 = .ok (.iastore, 1) := by decide +kernel
theorem dX2_setKind_7 : decode cX2_setKind 7 = .ok (.aload_n 0, 1) := by decide +kernel
theorem dX2_setKind_8 : decode cX2_setKind 8 = .ok (.getfield 30, 3) := by decide +kernel
theorem dX2_setKind_11 : decode cX2_setKind 11 = .ok (.iconst 2, 1) := by decide +kernel
theorem dX2_setKind_12 : decode cX2_setKind 12 = .ok (.iload_n 1, 1) := by decide +kernel
theorem dX2_setKind_13 : decode cX2_setKind 13 = .ok (.imul, 1) := by decide +kernel
theorem dX2_setKind_14 : decode cX2_setKind 14 = .ok (.iload_n 2, 1) := by decide +kernel
theorem dX2_setKind_15 : decode cX2_setKind 15 = .ok (.iconst 1, 1) := by decide +kernel
theorem dX2_setKind_16 : decode cX2_setKind 16 = .ok (.if_icmp .ne 7, 3) := by decide +kernel
theorem dX2_setKind_19 : decode cX2_setKind 19 = .ok (.iconst (-1), 1) := by decide +kernel
theorem dX2_setKind_20 : decode cX2_setKind 20 = .ok (.goto 13, 3) := by decide +kernel
theorem dX2_setKind_23 : decode cX2_setKind 23 = .ok (.aload_n 0, 1) := by decide +kernel
theorem dX2_setKind_24 : decode cX2_setKind 24 = .ok (.getfield 33, 3) := by decide +kernel
theorem dX2_setKind_27 : decode cX2_setKind 27 = .ok (.iconst 2, 1) := by decide +kernel
theorem dX2_setKind_28 : decode cX2_setKind 28 = .ok (.iload_n 1, 1) := by decide +kernel
theorem dX2_setKind_29 : decode cX2_setKind 29 = .ok (.imul, 1) := by decide +kernel
theorem dX2_setKind_30 : decode cX2_setKind 30 = .ok (.iconst 1, 1) := by decide +kernel
theorem dX2_setKind_31 : decode cX2_setKind 31 = .ok (.iadd, 1) := by decide +kernel
theorem dX2_setKind_32 : decode cX2_setKind 32 = .ok (.iaload, 1) := by decide +kernel
theorem dX2_setKind_33 : decode cX2_setKind 33 = .ok (.iastore, 1) := by decide +kernel
theorem dX2_setKind_34 : decode cX2_setKind 34 = .ok (.return_, 1) := by decide +kernel
theorem dX2_haveCommonKnot_0 : decode cX2_haveCommonKnot 0 = .ok (.aload_n 0, 1) := by decide +kernel
theorem dX2_haveCommonKnot_1 : decode cX2_haveCommonKnot 1 = .ok (.iload_n 2, 1) := by decide +kernel
theorem dX2_haveCommonKnot_2 : decode cX2_haveCommonKnot 2 = .ok (.aload_n 0, 1) := by decide +kernel
theorem dX2_haveCommonKnot_3 : decode cX2_haveCommonKnot 3 = .ok (.getfield 33, 3) := by decide +kernel
theorem dX2_haveCommonKnot_6 : decode cX2_haveCommonKnot 6 = .ok (.iconst 2, 1) := by decide +kernel
theorem dX2_haveCommonKnot_7 : decode cX2_haveCommonKnot 7 = .ok (.iload_n 1, 1) := by decide +kernel
theorem dX2_haveCommonKnot_8 : decode cX2_haveCommonKnot 8 = .ok (.imul, 1) := by decide +kernel
theorem dX2_haveCommonKnot_9 : decode cX2_haveCommonKnot 9 = .ok (.iaload, 1) := by decide +kernel
theorem dX2_haveCommonKnot_10 : decode cX2_haveCommonKnot 10 = .ok (.invokevirtual 47, 3) := by decide +kernel
theorem dX2_haveCommonKnot_13 : decode cX2_haveCommonKnot 13 = .ok (.ifCond .ne 21, 3) := by decide +kernel
theorem dX2_haveCommonKnot_16 : decode cX2_haveCommonKnot 16 = .ok (.aload_n 0, 1) := by decide +kernel
theorem dX2_haveCommonKnot_17 : decode cX2_haveCommonKnot 17 = .ok (.iload_n 2, 1) := by decide +kernel
theorem dX2_haveCommonKnot_18 : decode cX2_haveCommonKnot 18 = .ok (.aload_n 0, 1) := by decide +kernel
theorem dX2_haveCommonKnot_19 : decode cX2_haveCommonKnot 19 = .ok (.getfield 33, 3) := by decide +kernel
theorem dX2_haveCommonKnot_22 : decode cX2_haveCommonKnot 22 = .ok (.iconst 2, 1) := by decide +kernel
theorem dX2_haveCommonKnot_23 : decode cX2_haveCommonKnot 23 = .ok (.iload_n 1, 1) := by decide +kernel
theorem dX2_haveCommonKnot_24 : decode cX2_haveCommonKnot 24 = .ok (.imul, 1) := by decide +kernel
theorem dX2_haveCommonKnot_25 : decode cX2_haveCommonKnot 25 = .ok (.iconst 1, 1) := by decide +kernel
theorem dX2_haveCommonKnot_26 : decode cX2_haveCommonKnot 26 = .ok (.iadd, 1) := by decide +kernel
theorem dX2_haveCommonKnot_27 : decode cX2_haveCommonKnot 27 = .ok (.iaload, 1) := by decide +kernel
theorem dX2_haveCommonKnot_28 : decode cX2_haveCommonKnot 28 = .ok (.invokevirtual 47, 3) := by decide +kernel
theorem dX2_haveCommonKnot_31 : decode cX2_haveCommonKnot 31 = .ok (.ifCond .eq 7, 3) := by decide +kernel
theorem dX2_haveCommonKnot_34 : decode cX2_haveCommonKnot 34 = .ok (.iconst 1, 1) := by decide +kernel
theorem dX2_haveCommonKnot_35 : decode cX2_haveCommonKnot 35 = .ok (.goto 4, 3) := by decide +kernel
theorem dX2_haveCommonKnot_38 : decode cX2_haveCommonKnot 38 = .ok (.iconst 0, 1) := by decide +kernel
theorem dX2_haveCommonKnot_39 : decode cX2_haveCommonKnot 39 = .ok (.ireturn, 1) := by decide +kernel
theorem dX2_isAtKnot_0 : decode cX2_isAtKnot 0 = .ok (.aload_n 0, 1) := by decide +kernel
theorem dX2_isAtKnot_1 : decode cX2_isAtKnot 1 = .ok (.getfield 33, 3) := by decide +kernel
theorem dX2_isAtKnot_4 : decode cX2_isAtKnot 4 = .ok (.iconst 2, 1) := by decide +kernel
theorem dX2_isAtKnot_5 : decode cX2_isAtKnot 5 = .ok (.iload_n 1, 1) := by decide +kernel
theorem dX2_isAtKnot_6 : decode cX2_isAtKnot 6 = .ok (.imul, 1) := by decide +kernel
theorem dX2_isAtKnot_7 : decode cX2_isAtKnot 7 = .ok (.iaload, 1) := by decide +kernel
theorem dX2_isAtKnot_8 : decode cX2_isAtKnot 8 = .ok (.iload_n 2, 1) := by decide +kernel
theorem dX2_isAtKnot_9 : decode cX2_isAtKnot 9 = .ok (.if_icmp .eq 17, 3) := by decide +kernel
theorem dX2_isAtKnot_12 : decode cX2_isAtKnot 12 = .ok (.aload_n 0, 1) := by decide +kernel
theorem dX2_isAtKnot_13 : decode cX2_isAtKnot 13 = .ok (.getfield 33, 3) := by decide +kernel
theorem dX2_isAtKnot_16 : decode cX2_isAtKnot 16 = .ok (.iconst 2, 1) := by decide +kernel
theorem dX2_isAtKnot_17 : decode cX2_isAtKnot 17 = .ok (.iload_n 1, 1) := by decide +kernel
theorem dX2_isAtKnot_18 : decode cX2_isAtKnot 18 = .ok (.imul, 1) := by decide +kernel
theorem dX2_isAtKnot_19 : decode cX2_isAtKnot 19 = .ok (.iconst 1, 1) := by decide +kernel
theorem dX2_isAtKnot_20 : decode cX2_isAtKnot 20 = .ok (.iadd, 1) := by decide +kernel
theorem dX2_isAtKnot_21 : decode cX2_isAtKnot 21 = .ok (.iaload, 1) := by decide +kernel
theorem dX2_isAtKnot_22 : decode cX2_isAtKnot 22 = .ok (.iload_n 2, 1) := by decide +kernel
theorem dX2_isAtKnot_23 : decode cX2_isAtKnot 23 = .ok (.if_icmp .ne 7, 3) := by decide +kernel
theorem dX2_isAtKnot_26 : decode cX2_isAtKnot 26 = .ok (.iconst 1, 1) := by decide +kernel
theorem dX2_isAtKnot_27 : decode cX2_isAtKnot 27 = .ok (.goto 4, 3) := by decide +kernel
theorem dX2_isAtKnot_30 : decode cX2_isAtKnot 30 = .ok (.iconst 0, 1) := by decide +kernel
theorem dX2_isAtKnot_31 : decode cX2_isAtKnot 31 = .ok (.ireturn, 1) := by decide +kernel
theorem dX2_isBarred_0 : decode cX2_isBarred 0 = .ok (.aload_n 0, 1) := by decide +kernel
theorem dX2_isBarred_1 : decode cX2_isBarred 1 = .ok (.getfield 27, 3) := by decide +kernel
theorem dX2_isBarred_4 : decode cX2_isBarred 4 = .ok (.iload_n 1, 1) := by decide +kernel
theorem dX2_isBarred_5 : decode cX2_isBarred 5 = .ok (.iaload, 1) := by decide +kernel
theorem dX2_isBarred_6 : decode cX2_isBarred 6 = .ok (.iload_n 2, 1) := by decide +kernel
theorem dX2_isBarred_7 : decode cX2_isBarred 7 = .ok (.ishr, 1) := by decide +kernel
theorem dX2_isBarred_8 : decode cX2_isBarred 8 = .ok (.iconst 1, 1) := by decide +kernel
theorem dX2_isBarred_9 : decode cX2_isBarred 9 = .ok (.iand, 1) := by decide +kernel
theorem dX2_isBarred_10 : decode cX2_isBarred 10 = .ok (.iconst 1, 1) := by decide +kernel
theorem dX2_isBarred_11 : decode cX2_isBarred 11 = .ok (.if_icmp .ne 7, 3) := by decide +kernel
theorem dX2_isBarred_14 : decode cX2_isBarred 14 = .ok (.iconst 1, 1) := by decide +kernel
theorem dX2_isBarred_15 : decode cX2_isBarred 15 = .ok (.goto 4, 3) := by decide +kernel
theorem dX2_isBarred_18 : decode cX2_isBarred 18 = .ok (.iconst 0, 1) := by decide +kernel
theorem dX2_isBarred_19 : decode cX2_isBarred 19 = .ok (.ireturn, 1) := by decide +kernel
theorem dX2_setBarred_0 : decode cX2_setBarred 0 = .ok (.iconst 1, 1) := by decide +kernel
theorem dX2_setBarred_1 : decode cX2_setBarred 1 = .ok (.iload_n 2, 1) := by decide +kernel
theorem dX2_setBarred_2 : decode cX2_setBarred 2 = .ok (.ishl, 1) := by decide +kernel
theorem dX2_setBarred_3 : decode cX2_setBarred 3 = .ok (.istore 4, 2) := by decide +kernel
theorem dX2_setBarred_5 : decode cX2_setBarred 5 = .ok (.aload_n 0, 1) := by decide +kernel
theorem dX2_setBarred_6 : decode cX2_setBarred 6 = .ok (.getfield 27, 3) := by decide +kernel
theorem dX2_setBarred_9 : decode cX2_setBarred 9 = .ok (.iload_n 1, 1) := by decide +kernel
theorem dX2_setBarred_10 : decode cX2_setBarred 10 = .ok (.iload_n 3, 1) := by decide +kernel
theorem dX2_setBarred_11 : decode cX2_setBarred 11 = .ok (.ifCond .eq 15, 3) := by decide +kernel
theorem dX2_setBarred_14 : decode cX2_setBarred 14 = .ok (.aload_n 0, 1) := by decide +kernel
theorem dX2_setBarred_15 : decode cX2_setBarred 15 = .ok (.getfield 27, 3) := by decide +kernel
theorem dX2_setBarred_18 : decode cX2_setBarred 18 = .ok (.iload_n 1, 1) := by decide +kernel
theorem dX2_setBarred_19 : decode cX2_setBarred 19 = .ok (.iaload, 1) := by decide +kernel
theorem dX2_setBarred_20 : decode cX2_setBarred 20 = .ok (.iload 4, 2) := by decide +kernel
theorem dX2_setBarred_22 : decode cX2_setBarred 22 = .ok (.ior, 1) := by decide +kernel
theorem dX2_setBarred_23 : decode cX2_setBarred 23 = .ok (.goto 14, 3) := by decide +kernel
theorem dX2_setBarred_26 : decode cX2_setBarred 26 = .ok (.aload_n 0, 1) := by decide +kernel
theorem dX2_setBarred_27 : decode cX2_setBarred 27 = .ok (.getfield 27, 3) := by decide +kernel
theorem dX2_setBarred_30 : decode cX2_setBarred 30 = .ok (.iload_n 1, 1) := by decide +kernel
theorem dX2_setBarred_31 : decode cX2_setBarred 31 = .ok (.iaload, 1) := by decide +kernel
theorem dX2_setBarred_32 : decode cX2_setBarred 32 = .ok (.iload 4, 2) := by decide +kernel
theorem dX2_setBarred_34 : decode cX2_setBarred 34 = .ok (.iconst (-1), 1) := by decide +kernel
theorem dX2_setBarred_35 : decode cX2_setBarred 35 = .ok (.ixor, 1) := by decide +kernel
theorem dX2_setBarred_36 : decode cX2_setBarred 36 = .ok (.iand, 1) := by decide +kernel
theorem dX2_setBarred_37 : decode cX2_setBarred 37 = .ok (.iastore, 1) := by decide +kernel
theorem dX2_setBarred_38 : decode cX2_setBarred 38 = .ok (.return_, 1) := by decide +kernel
theorem dX2_offFrom_0 : decode cX2_offFrom 0 = .ok (.iload_n 1, 1) := by decide +kernel
theorem dX2_offFrom_1 : decode cX2_offFrom 1 = .ok (.iconst 5, 1) := by decide +kernel
theorem dX2_offFrom_2 : decode cX2_offFrom 2 = .ok (.idiv, 1) := by decide +kernel
theorem dX2_offFrom_3 : decode cX2_offFrom 3 = .ok (.istore 4, 2) := by decide +kernel
theorem dX2_offFrom_5 : decode cX2_offFrom 5 = .ok (.iload_n 1, 1) := by decide +kernel
theorem dX2_offFrom_6 : decode cX2_offFrom 6 = .ok (.iconst 5, 1) := by decide +kernel
theorem dX2_offFrom_7 : decode cX2_offFrom 7 = .ok (.irem, 1) := by decide +kernel
theorem dX2_offFrom_8 : decode cX2_offFrom 8 = .ok (.istore 5, 2) := by decide +kernel
theorem dX2_offFrom_10 : decode cX2_offFrom 10 = .ok (.aload_n 0, 1) := by decide +kernel
theorem dX2_offFrom_11 : decode cX2_offFrom 11 = .ok (.getfield 9, 3) := by decide +kernel
theorem dX2_offFrom_14 : decode cX2_offFrom 14 = .ok (.aload_n 0, 1) := by decide +kernel
theorem dX2_offFrom_15 : decode cX2_offFrom 15 = .ok (.getfield 33, 3) := by decide +kernel
theorem dX2_offFrom_18 : decode cX2_offFrom 18 = .ok (.iconst 2, 1) := by decide +kernel
theorem dX2_offFrom_19 : decode cX2_offFrom 19 = .ok (.iload 4, 2) := by decide +kernel
theorem dX2_offFrom_21 : decode cX2_offFrom 21 = .ok (.imul, 1) := by decide +kernel
theorem dX2_offFrom_22 : decode cX2_offFrom 22 = .ok (.iaload, 1) := by decide +kernel
theorem dX2_offFrom_23 : decode cX2_offFrom 23 = .ok (.iaload, 1) := by decide +kernel
theorem dX2_offFrom_24 : decode cX2_offFrom 24 = .ok (.aload_n 0, 1) := by decide +kernel
theorem dX2_offFrom_25 : decode cX2_offFrom 25 = .ok (.getfield 9, 3) := by decide +kernel
theorem dX2_offFrom_28 : decode cX2_offFrom 28 = .ok (.aload_n 0, 1) := by decide +kernel
theorem dX2_offFrom_29 : decode cX2_offFrom 29 = .ok (.getfield 33, 3) := by decide +kernel
theorem dX2_offFrom_32 : decode cX2_offFrom 32 = .ok (.iconst 2, 1) := by decide +kernel
theorem dX2_offFrom_33 : decode cX2_offFrom 33 = .ok (.iload 4, 2) := by decide +kernel
theorem dX2_offFrom_35 : decode cX2_offFrom 35 = .ok (.imul, 1) := by decide +kernel
theorem dX2_offFrom_36 : decode cX2_offFrom 36 = .ok (.iconst 1, 1) := by decide +kernel
theorem dX2_offFrom_37 : decode cX2_offFrom 37 = .ok (.iadd, 1) := by decide +kernel
theorem dX2_offFrom_38 : decode cX2_offFrom 38 = .ok (.iaload, 1) := by decide +kernel
theorem dX2_offFrom_39 : decode cX2_offFrom 39 = .ok (.iaload, 1) := by decide +kernel
theorem dX2_offFrom_40 : decode cX2_offFrom 40 = .ok (.iload 5, 2) := by decide +kernel
theorem dX2_offFrom_42 : decode cX2_offFrom 42 = .ok (.invokestatic 51, 3) := by decide +kernel
theorem dX2_offFrom_45 : decode cX2_offFrom 45 = .ok (.iconst 4, 1) := by decide +kernel
theorem dX2_offFrom_46 : decode cX2_offFrom 46 = .ok (.iload_n 2, 1) := by decide +kernel
theorem dX2_offFrom_47 : decode cX2_offFrom 47 = .ok (.imul, 1) := by decide +kernel
theorem dX2_offFrom_48 : decode cX2_offFrom 48 = .ok (.isub, 1) := by decide +kernel
theorem dX2_offFrom_49 : decode cX2_offFrom 49 = .ok (.istore 6, 2) := by decide +kernel
theorem dX2_offFrom_51 : decode cX2_offFrom 51 = .ok (.aload_n 0, 1) := by decide +kernel
theorem dX2_offFrom_52 : decode cX2_offFrom 52 = .ok (.getfield 15, 3) := by decide +kernel
theorem dX2_offFrom_55 : decode cX2_offFrom 55 = .ok (.aload_n 0, 1) := by decide +kernel
theorem dX2_offFrom_56 : decode cX2_offFrom 56 = .ok (.getfield 33, 3) := by decide +kernel
theorem dX2_offFrom_59 : decode cX2_offFrom 59 = .ok (.iconst 2, 1) := by decide +kernel
theorem dX2_offFrom_60 : decode cX2_offFrom 60 = .ok (.iload 4, 2) := by decide +kernel
theorem dX2_offFrom_62 : decode cX2_offFrom 62 = .ok (.imul, 1) := by decide +kernel
theorem dX2_offFrom_63 : decode cX2_offFrom 63 = .ok (.iaload, 1) := by decide +kernel
theorem dX2_offFrom_64 : decode cX2_offFrom 64 = .ok (.iaload, 1) := by decide +kernel
theorem dX2_offFrom_65 : decode cX2_offFrom 65 = .ok (.aload_n 0, 1) := by decide +kernel
theorem dX2_offFrom_66 : decode cX2_offFrom 66 = .ok (.getfield 15, 3) := by decide +kernel
theorem dX2_offFrom_69 : decode cX2_offFrom 69 = .ok (.aload_n 0, 1) := by decide +kernel
theorem dX2_offFrom_70 : decode cX2_offFrom 70 = .ok (.getfield 33, 3) := by decide +kernel
theorem dX2_offFrom_73 : decode cX2_offFrom 73 = .ok (.iconst 2, 1) := by decide +kernel
theorem dX2_offFrom_74 : decode cX2_offFrom 74 = .ok (.iload 4, 2) := by decide +kernel
theorem dX2_offFrom_76 : decode cX2_offFrom 76 = .ok (.imul, 1) := by decide +kernel
theorem dX2_offFrom_77 : decode cX2_offFrom 77 = .ok (.iconst 1, 1) := by decide +kernel
theorem dX2_offFrom_78 : decode cX2_offFrom 78 = .ok (.iadd, 1) := by decide +kernel
theorem dX2_offFrom_79 : decode cX2_offFrom 79 = .ok (.iaload, 1) := by decide +kernel
theorem dX2_offFrom_80 : decode cX2_offFrom 80 = .ok (.iaload, 1) := by decide +kernel
theorem dX2_offFrom_81 : decode cX2_offFrom 81 = .ok (.iload 5, 2) := by decide +kernel
theorem dX2_offFrom_83 : decode cX2_offFrom 83 = .ok (.invokestatic 51, 3) := by decide +kernel
theorem dX2_offFrom_86 : decode cX2_offFrom 86 = .ok (.iconst 4, 1) := by decide +kernel
theorem dX2_offFrom_87 : decode cX2_offFrom 87 = .ok (.iload_n 3, 1) := by decide +kernel
theorem dX2_offFrom_88 : decode cX2_offFrom 88 = .ok (.imul, 1) := by decide +kernel
theorem dX2_offFrom_89 : decode cX2_offFrom 89 = .ok (.isub, 1) := by decide +kernel
theorem dX2_offFrom_90 : decode cX2_offFrom 90 = .ok (.istore 7, 2) := by decide +kernel
theorem dX2_offFrom_92 : decode cX2_offFrom 92 = .ok (.iload 6, 2) := by decide +kernel
theorem dX2_offFrom_94 : decode cX2_offFrom 94 = .ok (.iload 6, 2) := by decide +kernel
theorem dX2_offFrom_96 : decode cX2_offFrom 96 = .ok (.imul, 1) := by decide +kernel
theorem dX2_offFrom_97 : decode cX2_offFrom 97 = .ok (.iload 7, 2) := by decide +kernel
theorem dX2_offFrom_99 : decode cX2_offFrom 99 = .ok (.iload 7, 2) := by decide +kernel
theorem dX2_offFrom_101 : decode cX2_offFrom 101 = .ok (.imul, 1) := by decide +kernel
theorem dX2_offFrom_102 : decode cX2_offFrom 102 = .ok (.iadd, 1) := by decide +kernel
theorem dX2_offFrom_103 : decode cX2_offFrom 103 = .ok (.bipush 16, 2) := by decide +kernel
theorem dX2_offFrom_105 : decode cX2_offFrom 105 = .ok (.idiv, 1) := by decide +kernel
theorem dX2_offFrom_106 : decode cX2_offFrom 106 = .ok (.ireturn, 1) := by decide +kernel
theorem dX2_quartersAlong_0 : decode cX2_quartersAlong 0 = .ok (.iconst 4, 1) := by decide +kernel
theorem dX2_quartersAlong_1 : decode cX2_quartersAlong 1 = .ok (.iload_n 0, 1) := by decide +kernel
theorem dX2_quartersAlong_2 : decode cX2_quartersAlong 2 = .ok (.imul, 1) := by decide +kernel
theorem dX2_quartersAlong_3 : decode cX2_quartersAlong 3 = .ok (.iload_n 2, 1) := by decide +kernel
theorem dX2_quartersAlong_4 : decode cX2_quartersAlong 4 = .ok (.iload_n 1, 1) := by decide +kernel
theorem dX2_quartersAlong_5 : decode cX2_quartersAlong 5 = .ok (.iload_n 0, 1) := by decide +kernel
theorem dX2_quartersAlong_6 : decode cX2_quartersAlong 6 = .ok (.isub, 1) := by decide +kernel
theorem dX2_quartersAlong_7 : decode cX2_quartersAlong 7 = .ok (.imul, 1) := by decide +kernel
theorem dX2_quartersAlong_8 : decode cX2_quartersAlong 8 = .ok (.iadd, 1) := by decide +kernel
theorem dX2_quartersAlong_9 : decode cX2_quartersAlong 9 = .ok (.ireturn, 1) := by decide +kernel
theorem dX2_weightOfPart_0 : decode cX2_weightOfPart 0 = .ok (.iload_n 2, 1) := by decide +kernel
theorem dX2_weightOfPart_1 : decode cX2_weightOfPart 1 = .ok (.ifCond .le 25, 3) := by decide +kernel
theorem dX2_weightOfPart_4 : decode cX2_weightOfPart 4 = .ok (.iload_n 2, 1) := by decide +kernel
theorem dX2_weightOfPart_5 : decode cX2_weightOfPart 5 = .ok (.aload_n 0, 1) := by decide +kernel
theorem dX2_weightOfPart_6 : decode cX2_weightOfPart 6 = .ok (.getfield 18, 3) := by decide +kernel
theorem dX2_weightOfPart_9 : decode cX2_weightOfPart 9 = .ok (.iload_n 1, 1) := by decide +kernel
theorem dX2_weightOfPart_10 : decode cX2_weightOfPart 10 = .ok (.iaload, 1) := by decide +kernel
theorem dX2_weightOfPart_11 : decode cX2_weightOfPart 11 = .ok (.imul, 1) := by decide +kernel
theorem dX2_weightOfPart_12 : decode cX2_weightOfPart 12 = .ok (.sipush 10000, 3) := by decide +kernel
theorem dX2_weightOfPart_15 : decode cX2_weightOfPart 15 = .ok (.imul, 1) := by decide +kernel
theorem dX2_weightOfPart_16 : decode cX2_weightOfPart 16 = .ok (.aload_n 0, 1) := by decide +kernel
theorem dX2_weightOfPart_17 : decode cX2_weightOfPart 17 = .ok (.getfield 24, 3) := by decide +kernel
theorem dX2_weightOfPart_20 : decode cX2_weightOfPart 20 = .ok (.iload_n 1, 1) := by decide +kernel
theorem dX2_weightOfPart_21 : decode cX2_weightOfPart 21 = .ok (.iaload, 1) := by decide +kernel
theorem dX2_weightOfPart_22 : decode cX2_weightOfPart 22 = .ok (.iadd, 1) := by decide +kernel
theorem dX2_weightOfPart_23 : decode cX2_weightOfPart 23 = .ok (.goto 4, 3) := by decide +kernel
theorem dX2_weightOfPart_26 : decode cX2_weightOfPart 26 = .ok (.iconst 0, 1) := by decide +kernel
theorem dX2_weightOfPart_27 : decode cX2_weightOfPart 27 = .ok (.ireturn, 1) := by decide +kernel
theorem dX3_init_0 : decode cX3_init 0 = .ok (.aload_n 0, 1) := by decide +kernel
theorem dX3_init_1 : decode cX3_init 1 = .ok (.invokespecial 3, 3) := by decide +kernel
theorem dX3_init_4 : decode cX3_init 4 = .ok (.aload_n 0, 1) := by decide +kernel
theorem dX3_init_5 : decode cX3_init 5 = .ok (.sipush 3600, 3) := by decide +kernel
theorem dX3_init_8 : decode cX3_init 8 = .ok (.newarray .int, 2) := by decide +kernel
theorem dX3_init_10 : decode cX3_init 10 = .ok (.putfield 9, 3) := by decide +kernel
theorem dX3_init_13 : decode cX3_init 13 = .ok (.aload_n 0, 1) := by decide +kernel
theorem dX3_init_14 : decode cX3_init 14 = .ok (.bipush 60, 2) := by decide +kernel
theorem dX3_init_16 : decode cX3_init 16 = .ok (.newarray .boolean, 2) := by decide +kernel
theorem dX3_init_18 : decode cX3_init 18 = .ok (.putfield 15, 3) := by decide +kernel
theorem dX3_init_21 : decode cX3_init 21 = .ok (.aload_n 0, 1) := by decide +kernel
theorem dX3_init_22 : decode cX3_init 22 = .ok (.bipush 60, 2) := by decide +kernel
theorem dX3_init_24 : decode cX3_init 24 = .ok (.newarray .boolean, 2) := by decide +kernel
theorem dX3_init_26 : decode cX3_init 26 = .ok (.putfield 19, 3) := by decide +kernel
theorem dX3_init_29 : decode cX3_init 29 = .ok (.aload_n 0, 1) := by decide +kernel
theorem dX3_init_30 : decode cX3_init 30 = .ok (.aload_n 1, 1) := by decide +kernel
theorem dX3_init_31 : decode cX3_init 31 = .ok (.putfield 22, 3) := by decide +kernel
theorem dX3_init_34 : decode cX3_init 34 = .ok (.return_, 1) := by decide +kernel
theorem dX3_forget_0 : decode cX3_forget 0 = .ok (.iconst 0, 1) := by decide +kernel
theorem dX3_forget_1 : decode cX3_forget 1 = .ok (.istore_n 1, 1) := by decide +kernel
theorem dX3_forget_2 : decode cX3_forget 2 = .ok (.iload_n 1, 1) := by decide +kernel
theorem dX3_forget_3 : decode cX3_forget 3 = .ok (.bipush 60, 2) := by decide +kernel
theorem dX3_forget_5 : decode cX3_forget 5 = .ok (.if_icmp .ge 16, 3) := by decide +kernel
theorem dX3_forget_8 : decode cX3_forget 8 = .ok (.aload_n 0, 1) := by decide +kernel
theorem dX3_forget_9 : decode cX3_forget 9 = .ok (.getfield 15, 3) := by decide +kernel
theorem dX3_forget_12 : decode cX3_forget 12 = .ok (.iload_n 1, 1) := by decide +kernel
theorem dX3_forget_13 : decode cX3_forget 13 = .ok (.iconst 0, 1) := by decide +kernel
theorem dX3_forget_14 : decode cX3_forget 14 = .ok (.bastore, 1) := by decide +kernel
theorem dX3_forget_15 : decode cX3_forget 15 = .ok (.iinc 1 1, 3) := by decide +kernel
theorem dX3_forget_18 : decode cX3_forget 18 = .ok (.goto (-16), 3) := by decide +kernel
theorem dX3_forget_21 : decode cX3_forget 21 = .ok (.return_, 1) := by decide +kernel
theorem dX3_least_0 : decode cX3_least 0 = .ok (.iload_n 1, 1) := by decide +kernel
theorem dX3_least_1 : decode cX3_least 1 = .ok (.iload_n 2, 1) := by decide +kernel
theorem dX3_least_2 : decode cX3_least 2 = .ok (.if_icmp .ne 5, 3) := by decide +kernel
theorem dX3_least_5 : decode cX3_least 5 = .ok (.iconst 0, 1) := by decide +kernel
theorem dX3_least_6 : decode cX3_least 6 = .ok (.ireturn, 1) := by decide +kernel
theorem dX3_least_7 : decode cX3_least 7 = .ok (.iload_n 1, 1) := by decide +kernel
theorem dX3_least_8 : decode cX3_least 8 = .ok (.iconst 5, 1) := by decide +kernel
theorem dX3_least_9 : decode cX3_least 9 = .ok (.idiv, 1) := by decide +kernel
theorem dX3_least_10 : decode cX3_least 10 = .ok (.istore_n 3, 1) := by decide +kernel
theorem dX3_least_11 : decode cX3_least 11 = .ok (.iload_n 1, 1) := by decide +kernel
theorem dX3_least_12 : decode cX3_least 12 = .ok (.iconst 5, 1) := by decide +kernel
theorem dX3_least_13 : decode cX3_least 13 = .ok (.irem, 1) := by decide +kernel
theorem dX3_least_14 : decode cX3_least 14 = .ok (.istore 4, 2) := by decide +kernel
theorem dX3_least_16 : decode cX3_least 16 = .ok (.aload_n 0, 1) := by decide +kernel
theorem dX3_least_17 : decode cX3_least 17 = .ok (.iconst 2, 1) := by decide +kernel
theorem dX3_least_18 : decode cX3_least 18 = .ok (.iload_n 3, 1) := by decide +kernel
theorem dX3_least_19 : decode cX3_least 19 = .ok (.imul, 1) := by decide +kernel
theorem dX3_least_20 : decode cX3_least 20 = .ok (.invokevirtual 26, 3) := by decide +kernel
theorem dX3_least_23 : decode cX3_least 23 = .ok (.aload_n 0, 1) := by decide +kernel
theorem dX3_least_24 : decode cX3_least 24 = .ok (.iconst 2, 1) := by decide +kernel
theorem dX3_least_25 : decode cX3_least 25 = .ok (.iload_n 3, 1) := by decide +kernel
theorem dX3_least_26 : decode cX3_least 26 = .ok (.imul, 1) := by decide +kernel
theorem dX3_least_27 : decode cX3_least 27 = .ok (.iconst 1, 1) := by decide +kernel
theorem dX3_least_28 : decode cX3_least 28 = .ok (.iadd, 1) := by decide +kernel
theorem dX3_least_29 : decode cX3_least 29 = .ok (.invokevirtual 26, 3) := by decide +kernel
theorem dX3_least_32 : decode cX3_least 32 = .ok (.aload_n 0, 1) := by decide +kernel
theorem dX3_least_33 : decode cX3_least 33 = .ok (.iload_n 1, 1) := by decide +kernel
theorem dX3_least_34 : decode cX3_least 34 = .ok (.iload_n 2, 1) := by decide +kernel
theorem dX3_least_35 : decode cX3_least 35 = .ok (.invokevirtual 30, 3) := by decide +kernel
theorem dX3_least_38 : decode cX3_least 38 = .ok (.istore 5, 2) := by decide +kernel
theorem dX3_least_40 : decode cX3_least 40 = .ok (.iload 5, 2) := by decide +kernel
theorem dX3_least_42 : decode cX3_least 42 = .ok (.aload_n 0, 1) := by decide +kernel
theorem dX3_least_43 : decode cX3_least 43 = .ok (.iconst 2, 1) := by decide +kernel
theorem dX3_least_44 : decode cX3_least 44 = .ok (.iload_n 3, 1) := by decide +kernel
theorem dX3_least_45 : decode cX3_least 45 = .ok (.imul, 1) := by decide +kernel
theorem dX3_least_46 : decode cX3_least 46 = .ok (.iconst 1, 1) := by decide +kernel
theorem dX3_least_47 : decode cX3_least 47 = .ok (.iadd, 1) := by decide +kernel
theorem dX3_least_48 : decode cX3_least 48 = .ok (.aload_n 0, 1) := by decide +kernel
theorem dX3_least_49 : decode cX3_least 49 = .ok (.getfield 22, 3) := by decide +kernel
theorem dX3_least_52 : decode cX3_least 52 = .ok (.iload_n 3, 1) := by decide +kernel
theorem dX3_least_53 : decode cX3_least 53 = .ok (.iconst 4, 1) := by decide +kernel
theorem dX3_least_54 : decode cX3_least 54 = .ok (.iload 4, 2) := by decide +kernel
theorem dX3_least_56 : decode cX3_least 56 = .ok (.isub, 1) := by decide +kernel
theorem dX3_least_57 : decode cX3_least 57 = .ok (.invokevirtual 34, 3) := by decide +kernel
theorem dX3_least_60 : decode cX3_least 60 = .ok (.iload_n 2, 1) := by decide +kernel
theorem dX3_least_61 : decode cX3_least 61 = .ok (.invokevirtual 39, 3) := by decide +kernel
theorem dX3_least_64 : decode cX3_least 64 = .ok (.invokestatic 43, 3) := by decide +kernel
theorem dX3_least_67 : decode cX3_least 67 = .ok (.istore 5, 2) := by decide +kernel
theorem dX3_least_69 : decode cX3_least 69 = .ok (.aload_n 0, 1) := by decide +kernel
theorem dX3_least_70 : decode cX3_least 70 = .ok (.getfield 22, 3) := by decide +kernel
theorem dX3_least_73 : decode cX3_least 73 = .ok (.getfield 48, 3) := by decide +kernel
theorem dX3_least_76 : decode cX3_least 76 = .ok (.iload_n 3, 1) := by decide +kernel
theorem dX3_least_77 : decode cX3_least 77 = .ok (.iaload, 1) := by decide +kernel
theorem dX3_least_78 : decode cX3_least 78 = .ok (.iconst 1, 1) := by decide +kernel
theorem dX3_least_79 : decode cX3_least 79 = .ok (.if_icmp .ne 8, 3) := by decide +kernel
theorem dX3_least_82 : decode cX3_least 82 = .ok (.iload 4, 2) := by decide +kernel
theorem dX3_least_84 : decode cX3_least 84 = .ok (.ifCond .ne 28, 3) := by decide +kernel
theorem dX3_least_87 : decode cX3_least 87 = .ok (.iload 5, 2) := by decide +kernel
theorem dX3_least_89 : decode cX3_least 89 = .ok (.aload_n 0, 1) := by decide +kernel
theorem dX3_least_90 : decode cX3_least 90 = .ok (.iconst 2, 1) := by decide +kernel
theorem dX3_least_91 : decode cX3_least 91 = .ok (.iload_n 3, 1) := by decide +kernel
theorem dX3_least_92 : decode cX3_least 92 = .ok (.imul, 1) := by decide +kernel
theorem dX3_least_93 : decode cX3_least 93 = .ok (.aload_n 0, 1) := by decide +kernel
theorem dX3_least_94 : decode cX3_least 94 = .ok (.getfield 22, 3) := by decide +kernel
theorem dX3_least_97 : decode cX3_least 97 = .ok (.iload_n 3, 1) := by decide +kernel
theorem dX3_least_98 : decode cX3_least 98 = .ok (.iload 4, 2) := by decide +kernel
theorem dX3_least_100 : decode cX3_least 100 = .ok (.invokevirtual 34, 3) := by decide +kernel
theorem dX3_least_103 : decode cX3_least 103 = .ok (.iload_n 2, 1) := by decide +kernel
theorem dX3_least_104 : decode cX3_least 104 = .ok (.invokevirtual 39, 3) := by decide +kernel
theorem dX3_least_107 : decode cX3_least 107 = .ok (.invokestatic 43, 3) := by decide +kernel
theorem dX3_least_110 : decode cX3_least 110 = .ok (.istore 5, 2) := by decide +kernel
theorem dX3_least_112 : decode cX3_least 112 = .ok (.iload 5, 2) := by decide +kernel
theorem dX3_least_114 : decode cX3_least 114 = .ok (.ireturn, 1) := by decide +kernel
theorem dX3_alongOneRoad_0 : decode cX3_alongOneRoad 0 = .ok (.iload_n 1, 1) := by decide +kernel
theorem dX3_alongOneRoad_1 : decode cX3_alongOneRoad 1 = .ok (.iconst 5, 1) := by decide +kernel
theorem dX3_alongOneRoad_2 : decode cX3_alongOneRoad 2 = .ok (.idiv, 1) := by decide +kernel
theorem dX3_alongOneRoad_3 : decode cX3_alongOneRoad 3 = .ok (.istore_n 3, 1) := by decide +kernel
theorem dX3_alongOneRoad_4 : decode cX3_alongOneRoad 4 = .ok (.iload_n 2, 1) := by decide +kernel
theorem dX3_alongOneRoad_5 : decode cX3_alongOneRoad 5 = .ok (.iconst 5, 1) := by decide +kernel
theorem dX3_alongOneRoad_6 : decode cX3_alongOneRoad 6 = .ok (.idiv, 1) := by decide +kernel
theorem dX3_alongOneRoad_7 : decode cX3_alongOneRoad 7 = .ok (.iload_n 3, 1) := by decide +kernel
theorem dX3_alongOneRoad_8 : decode cX3_alongOneRoad 8 = .ok (.if_icmp .ne 21, 3) := by decide +kernel
theorem dX3_alongOneRoad_11 : decode cX3_alongOneRoad 11 = .ok (.iload_n 2, 1) := by decide +kernel
theorem dX3_alongOneRoad_12 : decode cX3_alongOneRoad 12 = .ok (.iload_n 1, 1) := by decide +kernel
theorem dX3_alongOneRoad_13 : decode cX3_alongOneRoad 13 = .ok (.if_icmp .ge 19, 3) := by decide +kernel
theorem dX3_alongOneRoad_16 : decode cX3_alongOneRoad 16 = .ok (.aload_n 0, 1) := by decide +kernel
theorem dX3_alongOneRoad_17 : decode cX3_alongOneRoad 17 = .ok (.getfield 22, 3) := by decide +kernel
theorem dX3_alongOneRoad_20 : decode cX3_alongOneRoad 20 = .ok (.getfield 48, 3) := by decide +kernel
theorem dX3_alongOneRoad_23 : decode cX3_alongOneRoad 23 = .ok (.iload_n 3, 1) := by decide +kernel
theorem dX3_alongOneRoad_24 : decode cX3_alongOneRoad 24 = .ok (.iaload, 1) := by decide +kernel
theorem dX3_alongOneRoad_25 : decode cX3_alongOneRoad 25 = .ok (.iconst 1, 1) := by decide +kernel
theorem dX3_alongOneRoad_26 : decode cX3_alongOneRoad 26 = .ok (.if_icmp .ne 6, 3) := by decide +kernel
theorem dX3_alongOneRoad_29 : decode cX3_alongOneRoad 29 = .ok (.ldc 51, 2) := by decide +kernel
theorem dX3_alongOneRoad_31 : decode cX3_alongOneRoad 31 = .ok (.ireturn, 1) := by decide +kernel
theorem dX3_alongOneRoad_32 : decode cX3_alongOneRoad 32 = .ok (.aload_n 0, 1) := by decide +kernel
theorem dX3_alongOneRoad_33 : decode cX3_alongOneRoad 33 = .ok (.getfield 22, 3) := by decide +kernel
theorem dX3_alongOneRoad_36 : decode cX3_alongOneRoad 36 = .ok (.iload_n 3, 1) := by decide +kernel
theorem dX3_alongOneRoad_37 : decode cX3_alongOneRoad 37 = .ok (.iload_n 2, 1) := by decide +kernel
theorem dX3_alongOneRoad_38 : decode cX3_alongOneRoad 38 = .ok (.iload_n 1, 1) := by decide +kernel
theorem dX3_alongOneRoad_39 : decode cX3_alongOneRoad 39 = .ok (.isub, 1) := by decide +kernel
theorem dX3_alongOneRoad_40 : decode cX3_alongOneRoad 40 = .ok (.invokestatic 52, 3) := by decide +kernel
theorem dX3_alongOneRoad_43 : decode cX3_alongOneRoad 43 = .ok (.invokevirtual 34, 3) := by decide +kernel
theorem dX3_alongOneRoad_46 : decode cX3_alongOneRoad 46 = .ok (.ireturn, 1) := by decide +kernel
theorem dX3_throughTurns_0 : decode cX3_throughTurns 0 = .ok (.iload_n 3, 1) := by decide +kernel
theorem dX3_throughTurns_1 : decode cX3_throughTurns 1 = .ok (.iconst 5, 1) := by decide +kernel
theorem dX3_throughTurns_2 : decode cX3_throughTurns 2 = .ok (.idiv, 1) := by decide +kernel
theorem dX3_throughTurns_3 : decode cX3_throughTurns 3 = .ok (.istore 4, 2) := by decide +kernel
theorem dX3_throughTurns_5 : decode cX3_throughTurns 5 = .ok (.iload_n 3, 1) := by decide +kernel
theorem dX3_throughTurns_6 : decode cX3_throughTurns 6 = .ok (.iconst 5, 1) := by decide +kernel
theorem dX3_throughTurns_7 : decode cX3_throughTurns 7 = .ok (.irem, 1) := by decide +kernel
theorem dX3_throughTurns_8 : decode cX3_throughTurns 8 = .ok (.istore 5, 2) := by decide +kernel
theorem dX3_throughTurns_10 : decode cX3_throughTurns 10 = .ok (.aload_n 0, 1) := by decide +kernel
theorem dX3_throughTurns_11 : decode cX3_throughTurns 11 = .ok (.getfield 9, 3) := by decide +kernel
theorem dX3_throughTurns_14 : decode cX3_throughTurns 14 = .ok (.iload_n 1, 1) := by decide +kernel
theorem dX3_throughTurns_15 : decode cX3_throughTurns 15 = .ok (.bipush 60, 2) := by decide +kernel
theorem dX3_throughTurns_17 : decode cX3_throughTurns 17 = .ok (.imul, 1) := by decide +kernel
theorem dX3_throughTurns_18 : decode cX3_throughTurns 18 = .ok (.iconst 2, 1) := by decide +kernel
theorem dX3_throughTurns_19 : decode cX3_throughTurns 19 = .ok (.iload 4, 2) := by decide +kernel
theorem dX3_throughTurns_21 : decode cX3_throughTurns 21 = .ok (.imul, 1) := by decide +kernel
theorem dX3_throughTurns_22 : decode cX3_throughTurns 22 = .ok (.iadd, 1) := by decide +kernel
theorem dX3_throughTurns_23 : decode cX3_throughTurns 23 = .ok (.iaload, 1) := by decide +kernel
theorem dX3_throughTurns_24 : decode cX3_throughTurns 24 = .ok (.istore 6, 2) := by decide +kernel
theorem dX3_throughTurns_26 : decode cX3_throughTurns 26 = .ok (.aload_n 0, 1) := by decide +kernel
theorem dX3_throughTurns_27 : decode cX3_throughTurns 27 = .ok (.getfield 9, 3) := by decide +kernel
theorem dX3_throughTurns_30 : decode cX3_throughTurns 30 = .ok (.iload_n 1, 1) := by decide +kernel
theorem dX3_throughTurns_31 : decode cX3_throughTurns 31 = .ok (.bipush 60, 2) := by decide +kernel
theorem dX3_throughTurns_33 : decode cX3_throughTurns 33 = .ok (.imul, 1) := by decide +kernel
theorem dX3_throughTurns_34 : decode cX3_throughTurns 34 = .ok (.iconst 2, 1) := by decide +kernel
theorem dX3_throughTurns_35 : decode cX3_throughTurns 35 = .ok (.iload 4, 2) := by decide +kernel
theorem dX3_throughTurns_37 : decode cX3_throughTurns 37 = .ok (.imul, 1) := by decide +kernel
theorem dX3_throughTurns_38 : decode cX3_throughTurns 38 = .ok (.iadd, 1) := by decide +kernel
theorem dX3_throughTurns_39 : decode cX3_throughTurns 39 = .ok (.iconst 1, 1) := by decide +kernel
theorem dX3_throughTurns_40 : decode cX3_throughTurns 40 = .ok (.iadd, 1) := by decide +kernel
theorem dX3_throughTurns_41 : decode cX3_throughTurns 41 = .ok (.iaload, 1) := by decide +kernel
theorem dX3_throughTurns_42 : decode cX3_throughTurns 42 = .ok (.istore 7, 2) := by decide +kernel
theorem dX3_throughTurns_44 : decode cX3_throughTurns 44 = .ok (.ldc 51, 2) := by decide +kernel
theorem dX3_throughTurns_46 : decode cX3_throughTurns 46 = .ok (.istore 8, 2) := by decide +kernel
theorem dX3_throughTurns_48 : decode cX3_throughTurns 48 = .ok (.iload 6, 2) := by decide +kernel
theorem dX3_throughTurns_50 : decode cX3_throughTurns 50 = .ok (.ldc 51, 2) := by decide +kernel
theorem dX3_throughTurns_52 : decode cX3_throughTurns 52 = .ok (.if_icmp .eq 23, 3) := by decide +kernel
theorem dX3_throughTurns_55 : decode cX3_throughTurns 55 = .ok (.iload_n 2, 1) := by decide +kernel
theorem dX3_throughTurns_56 : decode cX3_throughTurns 56 = .ok (.iload 6, 2) := by decide +kernel
theorem dX3_throughTurns_58 : decode cX3_throughTurns 58 = .ok (.iadd, 1) := by decide +kernel
theorem dX3_throughTurns_59 : decode cX3_throughTurns 59 = .ok (.aload_n 0, 1) := by decide +kernel
theorem dX3_throughTurns_60 : decode cX3_throughTurns 60 = .ok (.getfield 22, 3) := by decide +kernel
theorem dX3_throughTurns_63 : decode cX3_throughTurns 63 = .ok (.iload 4, 2) := by decide +kernel
theorem dX3_throughTurns_65 : decode cX3_throughTurns 65 = .ok (.iconst 4, 1) := by decide +kernel
theorem dX3_throughTurns_66 : decode cX3_throughTurns 66 = .ok (.iload 5, 2) := by decide +kernel
theorem dX3_throughTurns_68 : decode cX3_throughTurns 68 = .ok (.isub, 1) := by decide +kernel
theorem dX3_throughTurns_69 : decode cX3_throughTurns 69 = .ok (.invokevirtual 34, 3) := by decide +kernel
theorem dX3_throughTurns_72 : decode cX3_throughTurns 72 = .ok (.iadd, 1) := by decide +kernel
theorem dX3_throughTurns_73 : decode cX3_throughTurns 73 = .ok (.istore 8, 2) := by decide +kernel
theorem dX3_throughTurns_75 : decode cX3_throughTurns 75 = .ok (.iload 7, 2) := by decide +kernel
theorem dX3_throughTurns_77 : decode cX3_throughTurns 77 = .ok (.ldc 51, 2) := by decide +kernel
theorem dX3_throughTurns_79 : decode cX3_throughTurns 79 = .ok (.if_icmp .eq 26, 3) := by decide +kernel
theorem dX3_throughTurns_82 : decode cX3_throughTurns 82 = .ok (.iload 8, 2) := by decide +kernel
theorem dX3_throughTurns_84 : decode cX3_throughTurns 84 = .ok (.iload_n 2, 1) := by decide +kernel
theorem dX3_throughTurns_85 : decode cX3_throughTurns 85 = .ok (.iload 7, 2) := by decide +kernel
theorem dX3_throughTurns_87 : decode cX3_throughTurns 87 = .ok (.iadd, 1) := by decide +kernel
theorem dX3_throughTurns_88 : decode cX3_throughTurns 88 = .ok (.aload_n 0, 1) := by decide +kernel
theorem dX3_throughTurns_89 : decode cX3_throughTurns 89 = .ok (.getfield 22, 3) := by decide +kernel
theorem dX3_throughTurns_92 : decode cX3_throughTurns 92 = .ok (.iload 4, 2) := by decide +kernel
theorem dX3_throughTurns_94 : decode cX3_throughTurns 94 = .ok (.iload 5, 2) := by decide +kernel
theorem dX3_throughTurns_96 : decode cX3_throughTurns 96 = .ok (.invokevirtual 34, 3) := by decide +kernel
theorem dX3_throughTurns_99 : decode cX3_throughTurns 99 = .ok (.iadd, 1) := by decide +kernel
theorem dX3_throughTurns_100 : decode cX3_throughTurns 100 = .ok (.invokestatic 43, 3) := by decide +kernel
theorem dX3_throughTurns_103 : decode cX3_throughTurns 103 = .ok (.istore 8, 2) := by decide +kernel
theorem dX3_throughTurns_105 : decode cX3_throughTurns 105 = .ok (.iload 8, 2) := by decide +kernel
theorem dX3_throughTurns_107 : decode cX3_throughTurns 107 = .ok (.ireturn, 1) := by decide +kernel
theorem dX3_know_0 : decode cX3_know 0 = .ok (.aload_n 0, 1) := by decide +kernel
theorem dX3_know_1 : decode cX3_know 1 = .ok (.getfield 15, 3) := by decide +kernel
theorem dX3_know_4 : decode cX3_know 4 = .ok (.iload_n 1, 1) := by decide +kernel
theorem dX3_know_5 : decode cX3_know 5 = .ok (.baload, 1) := by decide +kernel
theorem dX3_know_6 : decode cX3_know 6 = .ok (.ifCond .eq 4, 3) := by decide +kernel
theorem dX3_know_9 : decode cX3_know 9 = .ok (.return_, 1) := by decide +kernel
theorem dX3_know_10 : decode cX3_know 10 = .ok (.aload_n 0, 1) := by decide +kernel
theorem dX3_know_11 : decode cX3_know 11 = .ok (.getfield 15, 3) := by decide +kernel
theorem dX3_know_14 : decode cX3_know 14 = .ok (.iload_n 1, 1) := by decide +kernel
theorem dX3_know_15 : decode cX3_know 15 = .ok (.iconst 1, 1) := by decide +kernel
theorem dX3_know_16 : decode cX3_know 16 = .ok (.bastore, 1) := by decide +kernel
theorem dX3_know_17 : decode cX3_know 17 = .ok (.iload_n 1, 1) := by decide +kernel
theorem dX3_know_18 : decode cX3_know 18 = .ok (.bipush 60, 2) := by decide +kernel
theorem dX3_know_20 : decode cX3_know 20 = .ok (.imul, 1) := by decide +kernel
theorem dX3_know_21 : decode cX3_know 21 = .ok (.istore_n 2, 1) := by decide +kernel
theorem dX3_know_22 : decode cX3_know 22 = .ok (.iconst 2, 1) := by decide +kernel
theorem dX3_know_23 : decode cX3_know 23 = .ok (.aload_n 0, 1) := by decide +kernel
theorem dX3_know_24 : decode cX3_know 24 = .ok (.getfield 22, 3) := by decide +kernel
theorem dX3_know_27 : decode cX3_know 27 = .ok (.getfield 56, 3) := by decide +kernel
theorem dX3_know_30 : decode cX3_know 30 = .ok (.imul, 1) := by decide +kernel
theorem dX3_know_31 : decode cX3_know 31 = .ok (.istore_n 3, 1) := by decide +kernel
theorem dX3_know_32 : decode cX3_know 32 = .ok (.iconst 0, 1) := by decide +kernel
theorem dX3_know_33 : decode cX3_know 33 = .ok (.istore 4, 2) := by decide +kernel
theorem dX3_know_35 : decode cX3_know 35 = .ok (.iload 4, 2) := by decide +kernel
theorem dX3_know_37 : decode cX3_know 37 = .ok (.iload_n 3, 1) := by decide +kernel
theorem dX3_know_38 : decode cX3_know 38 = .ok (.if_icmp .ge 28, 3) := by decide +kernel
theorem dX3_know_41 : decode cX3_know 41 = .ok (.aload_n 0, 1) := by decide +kernel
theorem dX3_know_42 : decode cX3_know 42 = .ok (.getfield 9, 3) := by decide +kernel
theorem dX3_know_45 : decode cX3_know 45 = .ok (.iload_n 2, 1) := by decide +kernel
theorem dX3_know_46 : decode cX3_know 46 = .ok (.iload 4, 2) := by decide +kernel
theorem dX3_know_48 : decode cX3_know 48 = .ok (.iadd, 1) := by decide +kernel
theorem dX3_know_49 : decode cX3_know 49 = .ok (.ldc 51, 2) := by decide +kernel
theorem dX3_know_51 : decode cX3_know 51 = .ok (.iastore, 1) := by decide +kernel
theorem dX3_know_52 : decode cX3_know 52 = .ok (.aload_n 0, 1) := by decide +kernel
theorem dX3_know_53 : decode cX3_know 53 = .ok (.getfield 19, 3) := by decide +kernel
theorem dX3_know_56 : decode cX3_know 56 = .ok (.iload 4, 2) := by decide +kernel
theorem dX3_know_58 : decode cX3_know 58 = .ok (.iconst 0, 1) := by decide +kernel
theorem dX3_know_59 : decode cX3_know 59 = .ok (.bastore, 1) := by decide +kernel
theorem dX3_know_60 : decode cX3_know 60 = .ok (.iinc 4 1, 3) := by decide +kernel
theorem dX3_know_63 : decode cX3_know 63 = .ok (.goto (-28), 3) := by decide +kernel
theorem dX3_know_66 : decode cX3_know 66 = .ok (.aload_n 0, 1) := by decide +kernel
theorem dX3_know_67 : decode cX3_know 67 = .ok (.iload_n 1, 1) := by decide +kernel
theorem dX3_know_68 : decode cX3_know 68 = .ok (.iconst 0, 1) := by decide +kernel
theorem dX3_know_69 : decode cX3_know 69 = .ok (.iload_n 2, 1) := by decide +kernel
theorem dX3_know_70 : decode cX3_know 70 = .ok (.invokevirtual 60, 3) := by decide +kernel
theorem dX3_know_73 : decode cX3_know 73 = .ok (.iconst 0, 1) := by decide +kernel
theorem dX3_know_74 : decode cX3_know 74 = .ok (.istore 4, 2) := by decide +kernel
theorem dX3_know_76 : decode cX3_know 76 = .ok (.iload 4, 2) := by decide +kernel
theorem dX3_know_78 : decode cX3_know 78 = .ok (.iload_n 3, 1) := by decide +kernel
theorem dX3_know_79 : decode cX3_know 79 = .ok (.if_icmp .ge 63, 3) := by decide +kernel
theorem dX3_know_82 : decode cX3_know 82 = .ok (.aload_n 0, 1) := by decide +kernel
theorem dX3_know_83 : decode cX3_know 83 = .ok (.iload_n 2, 1) := by decide +kernel
theorem dX3_know_84 : decode cX3_know 84 = .ok (.iload_n 3, 1) := by decide +kernel
theorem dX3_know_85 : decode cX3_know 85 = .ok (.invokevirtual 64, 3) := by decide +kernel
theorem dX3_know_88 : decode cX3_know 88 = .ok (.istore 5, 2) := by decide +kernel
theorem dX3_know_90 : decode cX3_know 90 = .ok (.iload 5, 2) := by decide +kernel
theorem dX3_know_92 : decode cX3_know 92 = .ok (.iconst (-1), 1) := by decide +kernel
theorem dX3_know_93 : decode cX3_know 93 = .ok (.if_icmp .ne 6, 3) := by decide +kernel
theorem dX3_know_96 : decode cX3_know 96 = .ok (.goto 46, 3) := by decide +kernel
theorem dX3_know_99 : decode cX3_know 99 = .ok (.aload_n 0, 1) := by decide +kernel
theorem dX3_know_100 : decode cX3_know 100 = .ok (.getfield 19, 3) := by decide +kernel
theorem dX3_know_103 : decode cX3_know 103 = .ok (.iload 5, 2) := by decide +kernel
theorem dX3_know_105 : decode cX3_know 105 = .ok (.iconst 1, 1) := by decide +kernel
theorem dX3_know_106 : decode cX3_know 106 = .ok (.bastore, 1) := by decide +kernel
theorem dX3_know_107 : decode cX3_know 107 = .ok (.aload_n 0, 1) := by decide +kernel
theorem dX3_know_108 : decode cX3_know 108 = .ok (.iload 5, 2) := by decide +kernel
theorem dX3_know_110 : decode cX3_know 110 = .ok (.aload_n 0, 1) := by decide +kernel
theorem dX3_know_111 : decode cX3_know 111 = .ok (.getfield 9, 3) := by decide +kernel
theorem dX3_know_114 : decode cX3_know 114 = .ok (.iload_n 2, 1) := by decide +kernel
theorem dX3_know_115 : decode cX3_know 115 = .ok (.iload 5, 2) := by decide +kernel
theorem dX3_know_117 : decode cX3_know 117 = .ok (.iadd, 1) := by decide +kernel
theorem dX3_know_118 : decode cX3_know 118 = .ok (.iaload, 1) := by decide +kernel
theorem dX3_know_119 : decode cX3_know 119 = .ok (.aload_n 0, 1) := by decide +kernel
theorem dX3_know_120 : decode cX3_know 120 = .ok (.getfield 22, 3) := by decide +kernel
theorem dX3_know_123 : decode cX3_know 123 = .ok (.iload 5, 2) := by decide +kernel
theorem dX3_know_125 : decode cX3_know 125 = .ok (.iconst 2, 1) := by decide +kernel
theorem dX3_know_126 : decode cX3_know 126 = .ok (.idiv, 1) := by decide +kernel
theorem dX3_know_127 : decode cX3_know 127 = .ok (.iconst 4, 1) := by decide +kernel
theorem dX3_know_128 : decode cX3_know 128 = .ok (.invokevirtual 34, 3) := by decide +kernel
theorem dX3_know_131 : decode cX3_know 131 = .ok (.iadd, 1) := by decide +kernel
theorem dX3_know_132 : decode cX3_know 132 = .ok (.iload_n 2, 1) := by decide +kernel
theorem dX3_know_133 : decode cX3_know 133 = .ok (.invokevirtual 60, 3) := by decide +kernel
theorem dX3_know_136 : decode cX3_know 136 = .ok (.iinc 4 1, 3) := by decide +kernel
theorem dX3_know_139 : decode cX3_know 139 = .ok (.goto (-63), 3) := by decide +kernel
theorem dX3_know_142 : decode cX3_know 142 = .ok (.return_, 1) := by decide +kernel
theorem dX3_nearestOpen_0 : decode cX3_nearestOpen 0 = .ok (.iconst (-1), 1) := by decide +kernel
theorem dX3_nearestOpen_1 : decode cX3_nearestOpen 1 = .ok (.istore_n 3, 1) := by decide +kernel
theorem dX3_nearestOpen_2 : decode cX3_nearestOpen 2 = .ok (.ldc 51, 2) := by decide +kernel
theorem dX3_nearestOpen_4 : decode cX3_nearestOpen 4 = .ok (.istore 4, 2) := by decide +kernel
theorem dX3_nearestOpen_6 : decode cX3_nearestOpen 6 = .ok (.iconst 0, 1) := by decide +kernel
theorem dX3_nearestOpen_7 : decode cX3_nearestOpen 7 = .ok (.istore 5, 2) := by decide +kernel
theorem dX3_nearestOpen_9 : decode cX3_nearestOpen 9 = .ok (.iload 5, 2) := by decide +kernel
theorem dX3_nearestOpen_11 : decode cX3_nearestOpen 11 = .ok (.iload_n 2, 1) := by decide +kernel
theorem dX3_nearestOpen_12 : decode cX3_nearestOpen 12 = .ok (.if_icmp .ge 47, 3) := by decide +kernel
theorem dX3_nearestOpen_15 : decode cX3_nearestOpen 15 = .ok (.aload_n 0, 1) := by decide +kernel
theorem dX3_nearestOpen_16 : decode cX3_nearestOpen 16 = .ok (.getfield 9, 3) := by decide +kernel
theorem dX3_nearestOpen_19 : decode cX3_nearestOpen 19 = .ok (.iload_n 1, 1) := by decide +kernel
theorem dX3_nearestOpen_20 : decode cX3_nearestOpen 20 = .ok (.iload 5, 2) := by decide +kernel
theorem dX3_nearestOpen_22 : decode cX3_nearestOpen 22 = .ok (.iadd, 1) := by decide +kernel
theorem dX3_nearestOpen_23 : decode cX3_nearestOpen 23 = .ok (.iaload, 1) := by decide +kernel
theorem dX3_nearestOpen_24 : decode cX3_nearestOpen 24 = .ok (.iload 4, 2) := by decide +kernel
theorem dX3_nearestOpen_26 : decode cX3_nearestOpen 26 = .ok (.if_icmp .ge 27, 3) := by decide +kernel
theorem dX3_nearestOpen_29 : decode cX3_nearestOpen 29 = .ok (.aload_n 0, 1) := by decide +kernel
theorem dX3_nearestOpen_30 : decode cX3_nearestOpen 30 = .ok (.getfield 19, 3) := by decide +kernel
theorem dX3_nearestOpen_33 : decode cX3_nearestOpen 33 = .ok (.iload 5, 2) := by decide +kernel
theorem dX3_nearestOpen_35 : decode cX3_nearestOpen 35 = .ok (.baload, 1) := by decide +kernel
theorem dX3_nearestOpen_36 : decode cX3_nearestOpen 36 = .ok (.ifCond .ne 17, 3) := by decide +kernel
theorem dX3_nearestOpen_39 : decode cX3_nearestOpen 39 = .ok (.iload 5, 2) := by decide +kernel
theorem dX3_nearestOpen_41 : decode cX3_nearestOpen 41 = .ok (.istore_n 3, 1) := by decide +kernel
theorem dX3_nearestOpen_42 : decode cX3_nearestOpen 42 = .ok (.aload_n 0, 1) := by decide +kernel
theorem dX3_nearestOpen_43 : decode cX3_nearestOpen 43 = .ok (.getfield 9, 3) := by decide +kernel
theorem dX3_nearestOpen_46 : decode cX3_nearestOpen 46 = .ok (.iload_n 1, 1) := by decide +kernel
theorem dX3_nearestOpen_47 : decode cX3_nearestOpen 47 = .ok (.iload 5, 2) := by decide +kernel
theorem dX3_nearestOpen_49 : decode cX3_nearestOpen 49 = .ok (.iadd, 1) := by decide +kernel
theorem dX3_nearestOpen_50 : decode cX3_nearestOpen 50 = .ok (.iaload, 1) := by decide +kernel
theorem dX3_nearestOpen_51 : decode cX3_nearestOpen 51 = .ok (.istore 4, 2) := by decide +kernel
theorem dX3_nearestOpen_53 : decode cX3_nearestOpen 53 = .ok (.iinc 5 1, 3) := by decide +kernel
theorem dX3_nearestOpen_56 : decode cX3_nearestOpen 56 = .ok (.goto (-47), 3) := by decide +kernel
theorem dX3_nearestOpen_59 : decode cX3_nearestOpen 59 = .ok (.iload_n 3, 1) := by decide +kernel
theorem dX3_nearestOpen_60 : decode cX3_nearestOpen 60 = .ok (.ireturn, 1) := by decide +kernel
theorem dX3_turnFrom_0 : decode cX3_turnFrom 0 = .ok (.aload_n 0, 1) := by decide +kernel
theorem dX3_turnFrom_1 : decode cX3_turnFrom 1 = .ok (.getfield 22, 3) := by decide +kernel
theorem dX3_turnFrom_4 : decode cX3_turnFrom 4 = .ok (.getfield 67, 3) := by decide +kernel
theorem dX3_turnFrom_7 : decode cX3_turnFrom 7 = .ok (.iload_n 1, 1) := by decide +kernel
theorem dX3_turnFrom_8 : decode cX3_turnFrom 8 = .ok (.iaload, 1) := by decide +kernel
theorem dX3_turnFrom_9 : decode cX3_turnFrom 9 = .ok (.istore 4, 2) := by decide +kernel
theorem dX3_turnFrom_11 : decode cX3_turnFrom 11 = .ok (.aload_n 0, 1) := by decide +kernel
theorem dX3_turnFrom_12 : decode cX3_turnFrom 12 = .ok (.getfield 22, 3) := by decide +kernel
theorem dX3_turnFrom_15 : decode cX3_turnFrom 15 = .ok (.getfield 70, 3) := by decide +kernel
theorem dX3_turnFrom_18 : decode cX3_turnFrom 18 = .ok (.iload_n 1, 1) := by decide +kernel
theorem dX3_turnFrom_19 : decode cX3_turnFrom 19 = .ok (.iconst 2, 1) := by decide +kernel
theorem dX3_turnFrom_20 : decode cX3_turnFrom 20 = .ok (.idiv, 1) := by decide +kernel
theorem dX3_turnFrom_21 : decode cX3_turnFrom 21 = .ok (.iaload, 1) := by decide +kernel
theorem dX3_turnFrom_22 : decode cX3_turnFrom 22 = .ok (.istore 5, 2) := by decide +kernel
theorem dX3_turnFrom_24 : decode cX3_turnFrom 24 = .ok (.iconst 2, 1) := by decide +kernel
theorem dX3_turnFrom_25 : decode cX3_turnFrom 25 = .ok (.aload_n 0, 1) := by decide +kernel
theorem dX3_turnFrom_26 : decode cX3_turnFrom 26 = .ok (.getfield 22, 3) := by decide +kernel
theorem dX3_turnFrom_29 : decode cX3_turnFrom 29 = .ok (.getfield 56, 3) := by decide +kernel
theorem dX3_turnFrom_32 : decode cX3_turnFrom 32 = .ok (.imul, 1) := by decide +kernel
theorem dX3_turnFrom_33 : decode cX3_turnFrom 33 = .ok (.istore 6, 2) := by decide +kernel
theorem dX3_turnFrom_35 : decode cX3_turnFrom 35 = .ok (.iconst 0, 1) := by decide +kernel
theorem dX3_turnFrom_36 : decode cX3_turnFrom 36 = .ok (.istore 7, 2) := by decide +kernel
theorem dX3_turnFrom_38 : decode cX3_turnFrom 38 = .ok (.iload 7, 2) := by decide +kernel
theorem dX3_turnFrom_40 : decode cX3_turnFrom 40 = .ok (.iload 6, 2) := by decide +kernel
theorem dX3_turnFrom_42 : decode cX3_turnFrom 42 = .ok (.if_icmp .ge 59, 3) := by decide +kernel
theorem dX3_turnFrom_45 : decode cX3_turnFrom 45 = .ok (.aload_n 0, 1) := by decide +kernel
theorem dX3_turnFrom_46 : decode cX3_turnFrom 46 = .ok (.getfield 22, 3) := by decide +kernel
theorem dX3_turnFrom_49 : decode cX3_turnFrom 49 = .ok (.getfield 73, 3) := by decide +kernel
theorem dX3_turnFrom_52 : decode cX3_turnFrom 52 = .ok (.iload 7, 2) := by decide +kernel
theorem dX3_turnFrom_54 : decode cX3_turnFrom 54 = .ok (.iaload, 1) := by decide +kernel
theorem dX3_turnFrom_55 : decode cX3_turnFrom 55 = .ok (.iload 4, 2) := by decide +kernel
theorem dX3_turnFrom_57 : decode cX3_turnFrom 57 = .ok (.if_icmp .ne 38, 3) := by decide +kernel
theorem dX3_turnFrom_60 : decode cX3_turnFrom 60 = .ok (.iload 5, 2) := by decide +kernel
theorem dX3_turnFrom_62 : decode cX3_turnFrom 62 = .ok (.iload 7, 2) := by decide +kernel
theorem dX3_turnFrom_64 : decode cX3_turnFrom 64 = .ok (.iconst 2, 1) := by decide +kernel
theorem dX3_turnFrom_65 : decode cX3_turnFrom 65 = .ok (.idiv, 1) := by decide +kernel
theorem dX3_turnFrom_66 : decode cX3_turnFrom 66 = .ok (.ishr, 1) := by decide +kernel
theorem dX3_turnFrom_67 : decode cX3_turnFrom 67 = .ok (.iconst 1, 1) := by decide +kernel
theorem dX3_turnFrom_68 : decode cX3_turnFrom 68 = .ok (.iand, 1) := by decide +kernel
theorem dX3_turnFrom_69 : decode cX3_turnFrom 69 = .ok (.ifCond .ne 26, 3) := by decide +kernel
theorem dX3_turnFrom_72 : decode cX3_turnFrom 72 = .ok (.iload_n 2, 1) := by decide +kernel
theorem dX3_turnFrom_73 : decode cX3_turnFrom 73 = .ok (.aload_n 0, 1) := by decide +kernel
theorem dX3_turnFrom_74 : decode cX3_turnFrom 74 = .ok (.getfield 9, 3) := by decide +kernel
theorem dX3_turnFrom_77 : decode cX3_turnFrom 77 = .ok (.iload_n 3, 1) := by decide +kernel
theorem dX3_turnFrom_78 : decode cX3_turnFrom 78 = .ok (.iload 7, 2) := by decide +kernel
theorem dX3_turnFrom_80 : decode cX3_turnFrom 80 = .ok (.iadd, 1) := by decide +kernel
theorem dX3_turnFrom_81 : decode cX3_turnFrom 81 = .ok (.iaload, 1) := by decide +kernel
theorem dX3_turnFrom_82 : decode cX3_turnFrom 82 = .ok (.if_icmp .ge 13, 3) := by decide +kernel
theorem dX3_turnFrom_85 : decode cX3_turnFrom 85 = .ok (.aload_n 0, 1) := by decide +kernel
theorem dX3_turnFrom_86 : decode cX3_turnFrom 86 = .ok (.getfield 9, 3) := by decide +kernel
theorem dX3_turnFrom_89 : decode cX3_turnFrom 89 = .ok (.iload_n 3, 1) := by decide +kernel
theorem dX3_turnFrom_90 : decode cX3_turnFrom 90 = .ok (.iload 7, 2) := by decide +kernel
theorem dX3_turnFrom_92 : decode cX3_turnFrom 92 = .ok (.iadd, 1) := by decide +kernel
theorem dX3_turnFrom_93 : decode cX3_turnFrom 93 = .ok (.iload_n 2, 1) := by decide +kernel
theorem dX3_turnFrom_94 : decode cX3_turnFrom 94 = .ok (.iastore, 1) := by decide +kernel
theorem dX3_turnFrom_95 : decode cX3_turnFrom 95 = .ok (.iinc 7 1, 3) := by decide +kernel
theorem dX3_turnFrom_98 : decode cX3_turnFrom 98 = .ok (.goto (-60), 3) := by decide +kernel
theorem dX3_turnFrom_101 : decode cX3_turnFrom 101 = .ok (.return_, 1) := by decide +kernel
