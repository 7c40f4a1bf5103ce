theorem dX5_init_0 : decode cX5_init 0 = .ok (.aload_n 0, 1) := by decide +kernel
theorem dX5_init_1 : decode cX5_init 1 = .ok (.invokespecial 1, 3) := by decide +kernel
theorem dX5_init_4 : decode cX5_init 4 = .ok (.aload_n 0, 1) := by decide +kernel
theorem dX5_init_5 : decode cX5_init 5 = .ok (.bipush 16, 2) := by decide +kernel
theorem dX5_init_7 : decode cX5_init 7 = .ok (.newarray .int, 2) := by decide +kernel
theorem dX5_init_9 : decode cX5_init 9 = .ok (.putfield 9, 3) := by decide +kernel
theorem dX5_init_12 : decode cX5_init 12 = .ok (.aload_n 0, 1) := by decide +kernel
theorem dX5_init_13 : decode cX5_init 13 = .ok (.bipush 16, 2) := by decide +kernel
theorem dX5_init_15 : decode cX5_init 15 = .ok (.newarray .int, 2) := by decide +kernel
theorem dX5_init_17 : decode cX5_init 17 = .ok (.putfield 13, 3) := by decide +kernel
theorem dX5_init_20 : decode cX5_init 20 = .ok (.aload_n 0, 1) := by decide +kernel
theorem dX5_init_21 : decode cX5_init 21 = .ok (.bipush 30, 2) := by decide +kernel
theorem dX5_init_23 : decode cX5_init 23 = .ok (.newarray .int, 2) := by decide +kernel
theorem dX5_init_25 : decode cX5_init 25 = .ok (.putfield 16, 3) := by decide +kernel
theorem dX5_init_28 : decode cX5_init 28 = .ok (.aload_n 0, 1) := by decide +kernel
theorem dX5_init_29 : decode cX5_init 29 = .ok (.bipush 30, 2) := by decide +kernel
theorem dX5_init_31 : decode cX5_init 31 = .ok (.newarray .int, 2) := by decide +kernel
theorem dX5_init_33 : decode cX5_init 33 = .ok (.putfield 19, 3) := by decide +kernel
theorem dX5_init_36 : decode cX5_init 36 = .ok (.aload_n 0, 1) := by decide +kernel
theorem dX5_init_37 : decode cX5_init 37 = .ok (.bipush 30, 2) := by decide +kernel
theorem dX5_init_39 : decode cX5_init 39 = .ok (.newarray .int, 2) := by decide +kernel
theorem dX5_init_41 : decode cX5_init 41 = .ok (.putfield 22, 3) := by decide +kernel
theorem dX5_init_44 : decode cX5_init 44 = .ok (.aload_n 0, 1) := by decide +kernel
theorem dX5_init_45 : decode cX5_init 45 = .ok (.bipush 30, 2) := by decide +kernel
theorem dX5_init_47 : decode cX5_init 47 = .ok (.newarray .int, 2) := by decide +kernel
theorem dX5_init_49 : decode cX5_init 49 = .ok (.putfield 25, 3) := by decide +kernel
theorem dX5_init_52 : decode cX5_init 52 = .ok (.aload_n 0, 1) := by decide +kernel
theorem dX5_init_53 : decode cX5_init 53 = .ok (.bipush 30, 2) := by decide +kernel
theorem dX5_init_55 : decode cX5_init 55 = .ok (.newarray .int, 2) := by decide +kernel
theorem dX5_init_57 : decode cX5_init 57 = .ok (.putfield 28, 3) := by decide +kernel
theorem dX5_init_60 : decode cX5_init 60 = .ok (.aload_n 0, 1) := by decide +kernel
theorem dX5_init_61 : decode cX5_init 61 = .ok (.sipush 900, 3) := by decide +kernel
theorem dX5_init_64 : decode cX5_init 64 = .ok (.newarray .boolean, 2) := by decide +kernel
theorem dX5_init_66 : decode cX5_init 66 = .ok (.putfield 31, 3) := by decide +kernel
theorem dX5_init_69 : decode cX5_init 69 = .ok (.aload_n 0, 1) := by decide +kernel
theorem dX5_init_70 : decode cX5_init 70 = .ok (.bipush 120, 2) := by decide +kernel
theorem dX5_init_72 : decode cX5_init 72 = .ok (.newarray .int, 2) := by decide +kernel
theorem dX5_init_74 : decode cX5_init 74 = .ok (.putfield 35, 3) := by decide +kernel
theorem dX5_init_77 : decode cX5_init 77 = .ok (.aload_n 0, 1) := by decide +kernel
theorem dX5_init_78 : decode cX5_init 78 = .ok (.bipush 120, 2) := by decide +kernel
theorem dX5_init_80 : decode cX5_init 80 = .ok (.newarray .int, 2) := by decide +kernel
theorem dX5_init_82 : decode cX5_init 82 = .ok (.putfield 38, 3) := by decide +kernel
theorem dX5_init_85 : decode cX5_init 85 = .ok (.aload_n 0, 1) := by decide +kernel
theorem dX5_init_86 : decode cX5_init 86 = .ok (.bipush 120, 2) := by decide +kernel
theorem dX5_init_88 : decode cX5_init 88 = .ok (.newarray .int, 2) := by decide +kernel
theorem dX5_init_90 : decode cX5_init 90 = .ok (.putfield 41, 3) := by decide +kernel
theorem dX5_init_93 : decode cX5_init 93 = .ok (.aload_n 0, 1) := by decide +kernel
theorem dX5_init_94 : decode cX5_init 94 = .ok (.bipush 120, 2) := by decide +kernel
theorem dX5_init_96 : decode cX5_init 96 = .ok (.newarray .int, 2) := by decide +kernel
theorem dX5_init_98 : decode cX5_init 98 = .ok (.putfield 44, 3) := by decide +kernel
theorem dX5_init_101 : decode cX5_init 101 = .ok (.aload_n 0, 1) := by decide +kernel
theorem dX5_init_102 : decode cX5_init 102 = .ok (.bipush 6, 2) := by decide +kernel
theorem dX5_init_104 : decode cX5_init 104 = .ok (.newarray .int, 2) := by decide +kernel
theorem dX5_init_106 : decode cX5_init 106 = .ok (.putfield 47, 3) := by decide +kernel
theorem dX5_init_109 : decode cX5_init 109 = .ok (.aload_n 0, 1) := by decide +kernel
theorem dX5_init_110 : decode cX5_init 110 = .ok (.bipush 20, 2) := by decide +kernel
theorem dX5_init_112 : decode cX5_init 112 = .ok (.putfield 50, 3) := by decide +kernel
theorem dX5_init_115 : decode cX5_init 115 = .ok (.aload_n 0, 1) := by decide +kernel
theorem dX5_init_116 : decode cX5_init 116 = .ok (.sipush 200, 3) := by decide +kernel
theorem dX5_init_119 : decode cX5_init 119 = .ok (.putfield 54, 3) := by decide +kernel
theorem dX5_init_122 : decode cX5_init 122 = .ok (.aload_n 0, 1) := by decide +kernel
theorem dX5_init_123 : decode cX5_init 123 = .ok (.bipush 20, 2) := by decide +kernel
theorem dX5_init_125 : decode cX5_init 125 = .ok (.newarray .int, 2) := by decide +kernel
theorem dX5_init_127 : decode cX5_init 127 = .ok (.putfield 57, 3) := by decide +kernel
theorem dX5_init_130 : decode cX5_init 130 = .ok (.aload_n 0, 1) := by decide +kernel
theorem dX5_init_131 : decode cX5_init 131 = .ok (.sipush 22500, 3) := by decide +kernel
theorem dX5_init_134 : decode cX5_init 134 = .ok (.newarray .int, 2) := by decide +kernel
theorem dX5_init_136 : decode cX5_init 136 = .ok (.putfield 60, 3) := by decide +kernel
theorem dX5_init_139 : decode cX5_init 139 = .ok (.aload_n 0, 1) := by decide +kernel
theorem dX5_init_140 : decode cX5_init 140 = .ok (.sipush 22500, 3) := by decide +kernel
theorem dX5_init_143 : decode cX5_init 143 = .ok (.newarray .int, 2) := by decide +kernel
theorem dX5_init_145 : decode cX5_init 145 = .ok (.putfield 63, 3) := by decide +kernel
theorem dX5_init_148 : decode cX5_init 148 = .ok (.aload_n 0, 1) := by decide +kernel
theorem dX5_init_149 : decode cX5_init 149 = .ok (.bipush 60, 2) := by decide +kernel
theorem dX5_init_151 : decode cX5_init 151 = .ok (.newarray .int, 2) := by decide +kernel
theorem dX5_init_153 : decode cX5_init 153 = .ok (.putfield 66, 3) := by decide +kernel
theorem dX5_init_156 : decode cX5_init 156 = .ok (.aload_n 0, 1) := by decide +kernel
theorem dX5_init_157 : decode cX5_init 157 = .ok (.bipush 60, 2) := by decide +kernel
theorem dX5_init_159 : decode cX5_init 159 = .ok (.newarray .int, 2) := by decide +kernel
theorem dX5_init_161 : decode cX5_init 161 = .ok (.putfield 69, 3) := by decide +kernel
theorem dX5_init_164 : decode cX5_init 164 = .ok (.aload_n 0, 1) := by decide +kernel
theorem dX5_init_165 : decode cX5_init 165 = .ok (.sipush 200, 3) := by decide +kernel
theorem dX5_init_168 : decode cX5_init 168 = .ok (.newarray .int, 2) := by decide +kernel
theorem dX5_init_170 : decode cX5_init 170 = .ok (.putfield 72, 3) := by decide +kernel
theorem dX5_init_173 : decode cX5_init 173 = .ok (.aload_n 0, 1) := by decide +kernel
theorem dX5_init_174 : decode cX5_init 174 = .ok (.bipush 20, 2) := by decide +kernel
theorem dX5_init_176 : decode cX5_init 176 = .ok (.newarray .int, 2) := by decide +kernel
theorem dX5_init_178 : decode cX5_init 178 = .ok (.putfield 75, 3) := by decide +kernel
theorem dX5_init_181 : decode cX5_init 181 = .ok (.aload_n 0, 1) := by decide +kernel
theorem dX5_init_182 : decode cX5_init 182 = .ok (.sipush 200, 3) := by decide +kernel
theorem dX5_init_185 : decode cX5_init 185 = .ok (.newarray .int, 2) := by decide +kernel
theorem dX5_init_187 : decode cX5_init 187 = .ok (.putfield 78, 3) := by decide +kernel
theorem dX5_init_190 : decode cX5_init 190 = .ok (.aload_n 0, 1) := by decide +kernel
theorem dX5_init_191 : decode cX5_init 191 = .ok (.bipush 20, 2) := by decide +kernel
theorem dX5_init_193 : decode cX5_init 193 = .ok (.newarray .int, 2) := by decide +kernel
theorem dX5_init_195 : decode cX5_init 195 = .ok (.putfield 81, 3) := by decide +kernel
theorem dX5_init_198 : decode cX5_init 198 = .ok (.aload_n 0, 1) := by decide +kernel
theorem dX5_init_199 : decode cX5_init 199 = .ok (.bipush 20, 2) := by decide +kernel
theorem dX5_init_201 : decode cX5_init 201 = .ok (.newarray .int, 2) := by decide +kernel
theorem dX5_init_203 : decode cX5_init 203 = .ok (.putfield 84, 3) := by decide +kernel
theorem dX5_init_206 : decode cX5_init 206 = .ok (.return_, 1) := by decide +kernel
theorem dX5_within_0 : decode cX5_within 0 = .ok (.iload_n 0, 1) := by decide +kernel
theorem dX5_within_1 : decode cX5_within 1 = .ok (.iload_n 1, 1) := by decide +kernel
theorem dX5_within_2 : decode cX5_within 2 = .ok (.if_icmp .lt 12, 3) := by decide +kernel
theorem dX5_within_5 : decode cX5_within 5 = .ok (.iload_n 0, 1) := by decide +kernel
theorem dX5_within_6 : decode cX5_within 6 = .ok (.iload_n 2, 1) := by decide +kernel
theorem dX5_within_7 : decode cX5_within 7 = .ok (.if_icmp .gt 7, 3) := by decide +kernel
theorem dX5_within_10 : decode cX5_within 10 = .ok (.iconst 1, 1) := by decide +kernel
theorem dX5_within_11 : decode cX5_within 11 = .ok (.goto 4, 3) := by decide +kernel
theorem dX5_within_14 : decode cX5_within 14 = .ok (.iconst 0, 1) := by decide +kernel
theorem dX5_within_15 : decode cX5_within 15 = .ok (.ireturn, 1) := by decide +kernel
theorem dX5_knot_0 : decode cX5_knot 0 = .ok (.iload_n 1, 1) := by decide +kernel
theorem dX5_knot_1 : decode cX5_knot 1 = .ok (.iconst 0, 1) := by decide +kernel
theorem dX5_knot_2 : decode cX5_knot 2 = .ok (.bipush 99, 2) := by decide +kernel
theorem dX5_knot_4 : decode cX5_knot 4 = .ok (.invokestatic 87, 3) := by decide +kernel
theorem dX5_knot_7 : decode cX5_knot 7 = .ok (.ifCond .eq 13, 3) := by decide +kernel
theorem dX5_knot_10 : decode cX5_knot 10 = .ok (.iload_n 2, 1) := by decide +kernel
theorem dX5_knot_11 : decode cX5_knot 11 = .ok (.iconst 0, 1) := by decide +kernel
theorem dX5_knot_12 : decode cX5_knot 12 = .ok (.bipush 99, 2) := by decide +kernel
theorem dX5_knot_14 : decode cX5_knot 14 = .ok (.invokestatic 87, 3) := by decide +kernel
theorem dX5_knot_17 : decode cX5_knot 17 = .ok (.ifCond .ne 5, 3) := by decide +kernel
theorem dX5_knot_20 : decode cX5_knot 20 = .ok (.iconst (-1), 1) := by decide +kernel
theorem dX5_knot_21 : decode cX5_knot 21 = .ok (.ireturn, 1) := by decide +kernel
theorem dX5_knot_22 : decode cX5_knot 22 = .ok (.aload_n 0, 1) := by decide +kernel
theorem dX5_knot_23 : decode cX5_knot 23 = .ok (.getfield 91, 3) := by decide +kernel
theorem dX5_knot_26 : decode cX5_knot 26 = .ok (.bipush 16, 2) := by decide +kernel
theorem dX5_knot_28 : decode cX5_knot 28 = .ok (.if_icmp .ne 6, 3) := by decide +kernel
theorem dX5_knot_31 : decode cX5_knot 31 = .ok (.bipush (-2), 2) := by decide +kernel
theorem dX5_knot_33 : decode cX5_knot 33 = .ok (.ireturn, 1) := by decide +kernel
theorem dX5_knot_34 : decode cX5_knot 34 = .ok (.aload_n 0, 1) := by decide +kernel
theorem dX5_knot_35 : decode cX5_knot 35 = .ok (.getfield 9, 3) := by decide +kernel
theorem dX5_knot_38 : decode cX5_knot 38 = .ok (.aload_n 0, 1) := by decide +kernel
theorem dX5_knot_39 : decode cX5_knot 39 = .ok (.getfield 91, 3) := by decide +kernel
theorem dX5_knot_42 : decode cX5_knot 42 = .ok (.iload_n 1, 1) := by decide +kernel
theorem dX5_knot_43 : decode cX5_knot 43 = .ok (.iastore, 1) := by decide +kernel
theorem dX5_knot_44 : decode cX5_knot 44 = .ok (.aload_n 0, 1) := by decide +kernel
theorem dX5_knot_45 : decode cX5_knot 45 = .ok (.getfield 13, 3) := by decide +kernel
theorem dX5_knot_48 : decode cX5_knot 48 = .ok (.aload_n 0, 1) := by decide +kernel
theorem dX5_knot_49 : decode cX5_knot 49 = .ok (.getfield 91, 3) := by decide +kernel
theorem dX5_knot_52 : decode cX5_knot 52 = .ok (.iload_n 2, 1) := by decide +kernel
theorem dX5_knot_53 : decode cX5_knot 53 = .ok (.iastore, 1) := by decide +kernel
theorem dX5_knot_54 : decode cX5_knot 54 = .ok (.aload_n 0, 1) := by decide +kernel
theorem dX5_knot_55 : decode cX5_knot 55 = .ok (.dup, 1) := by decide +kernel
theorem dX5_knot_56 : decode cX5_knot 56 = .ok (.getfield 91, 3) := by decide +kernel
theorem dX5_knot_59 : decode cX5_knot 59 = .ok (.iconst 1, 1) := by decide +kernel
theorem dX5_knot_60 : decode cX5_knot 60 = .ok (.iadd, 1) := by decide +kernel
theorem dX5_knot_61 : decode cX5_knot 61 = .ok (.putfield 91, 3) := by decide +kernel
theorem dX5_knot_64 : decode cX5_knot 64 = .ok (.aload_n 0, 1) := by decide +kernel
theorem dX5_knot_65 : decode cX5_knot 65 = .ok (.getfield 91, 3) := by decide +kernel
theorem dX5_knot_68 : decode cX5_knot 68 = .ok (.iconst 1, 1) := by decide +kernel
theorem dX5_knot_69 : decode cX5_knot 69 = .ok (.isub, 1) := by decide +kernel
theorem dX5_knot_70 : decode cX5_knot 70 = .ok (.ireturn, 1) := by decide +kernel
theorem dX5_isKnot_0 : decode cX5_isKnot 0 = .ok (.iload_n 1, 1) := by decide +kernel
theorem dX5_isKnot_1 : decode cX5_isKnot 1 = .ok (.ifCond .lt 15, 3) := by decide +kernel
theorem dX5_isKnot_4 : decode cX5_isKnot 4 = .ok (.iload_n 1, 1) := by decide +kernel
theorem dX5_isKnot_5 : decode cX5_isKnot 5 = .ok (.aload_n 0, 1) := by decide +kernel
theorem dX5_isKnot_6 : decode cX5_isKnot 6 = .ok (.getfield 91, 3) := by decide +kernel
theorem dX5_isKnot_9 : decode cX5_isKnot 9 = .ok (.if_icmp .ge 7, 3) := by decide +kernel
theorem dX5_isKnot_12 : decode cX5_isKnot 12 = .ok (.iconst 1, 1) := by decide +kernel
theorem dX5_isKnot_13 : decode cX5_isKnot 13 = .ok (.goto 4, 3) := by decide +kernel
theorem dX5_isKnot_16 : decode cX5_isKnot 16 = .ok (.iconst 0, 1) := by decide +kernel
theorem dX5_isKnot_17 : decode cX5_isKnot 17 = .ok (.ireturn, 1) := by decide +kernel
theorem dX5_isRoad_0 : decode cX5_isRoad 0 = .ok (.iload_n 1, 1) := by decide +kernel
theorem dX5_isRoad_1 : decode cX5_isRoad 1 = .ok (.ifCond .lt 15, 3) := by decide +kernel
theorem dX5_isRoad_4 : decode cX5_isRoad 4 = .ok (.iload_n 1, 1) := by decide +kernel
theorem dX5_isRoad_5 : decode cX5_isRoad 5 = .ok (.aload_n 0, 1) := by decide +kernel
theorem dX5_isRoad_6 : decode cX5_isRoad 6 = .ok (.getfield 94, 3) := by decide +kernel
theorem dX5_isRoad_9 : decode cX5_isRoad 9 = .ok (.if_icmp .ge 7, 3) := by decide +kernel
theorem dX5_isRoad_12 : decode cX5_isRoad 12 = .ok (.iconst 1, 1) := by decide +kernel
theorem dX5_isRoad_13 : decode cX5_isRoad 13 = .ok (.goto 4, 3) := by decide +kernel
theorem dX5_isRoad_16 : decode cX5_isRoad 16 = .ok (.iconst 0, 1) := by decide +kernel
theorem dX5_isRoad_17 : decode cX5_isRoad 17 = .ok (.ireturn, 1) := by decide +kernel
theorem dX5_isPoint_0 : decode cX5_isPoint 0 = .ok (.iload_n 1, 1) := by decide +kernel
theorem dX5_isPoint_1 : decode cX5_isPoint 1 = .ok (.ifCond .lt 17, 3) := by decide +kernel
theorem dX5_isPoint_4 : decode cX5_isPoint 4 = .ok (.iload_n 1, 1) := by decide +kernel
theorem dX5_isPoint_5 : decode cX5_isPoint 5 = .ok (.iconst 5, 1) := by decide +kernel
theorem dX5_isPoint_6 : decode cX5_isPoint 6 = .ok (.aload_n 0, 1) := by decide +kernel
theorem dX5_isPoint_7 : decode cX5_isPoint 7 = .ok (.getfield 94, 3) := by decide +kernel
theorem dX5_isPoint_10 : decode cX5_isPoint 10 = .ok (.imul, 1) := by decide +kernel
theorem dX5_isPoint_11 : decode cX5_isPoint 11 = .ok (.if_icmp .ge 7, 3) := by decide +kernel
theorem dX5_isPoint_14 : decode cX5_isPoint 14 = .ok (.iconst 1, 1) := by decide +kernel
theorem dX5_isPoint_15 : decode cX5_isPoint 15 = .ok (.goto 4, 3) := by decide +kernel
theorem dX5_isPoint_18 : decode cX5_isPoint 18 = .ok (.iconst 0, 1) := by decide +kernel
theorem dX5_isPoint_19 : decode cX5_isPoint 19 = .ok (.ireturn, 1) := by decide +kernel
theorem dX5_road_0 : decode cX5_road 0 = .ok (.iload_n 1, 1) := by decide +kernel
theorem dX5_road_1 : decode cX5_road 1 = .ok (.ifCond .lt 80, 3) := by decide +kernel
theorem dX5_road_4 : decode cX5_road 4 = .ok (.aload_n 0, 1) := by decide +kernel
theorem dX5_road_5 : decode cX5_road 5 = .ok (.iload_n 1, 1) := by decide +kernel
theorem dX5_road_6 : decode cX5_road 6 = .ok (.bipush 100, 2) := by decide +kernel
theorem dX5_road_8 : decode cX5_road 8 = .ok (.idiv, 1) := by decide +kernel
theorem dX5_road_9 : decode cX5_road 9 = .ok (.invokevirtual 97, 3) := by decide +kernel
theorem dX5_road_12 : decode cX5_road 12 = .ok (.ifCond .eq 69, 3) := by decide +kernel
theorem dX5_road_15 : decode cX5_road 15 = .ok (.aload_n 0, 1) := by decide +kernel
theorem dX5_road_16 : decode cX5_road 16 = .ok (.iload_n 1, 1) := by decide +kernel
theorem dX5_road_17 : decode cX5_road 17 = .ok (.bipush 100, 2) := by decide +kernel
theorem dX5_road_19 : decode cX5_road 19 = .ok (.irem, 1) := by decide +kernel
theorem dX5_road_20 : decode cX5_road 20 = .ok (.invokevirtual 97, 3) := by decide +kernel
theorem dX5_road_23 : decode cX5_road 23 = .ok (.ifCond .eq 58, 3) := by decide +kernel
theorem dX5_road_26 : decode cX5_road 26 = .ok (.iload_n 1, 1) := by decide +kernel
theorem dX5_road_27 : decode cX5_road 27 = .ok (.bipush 100, 2) := by decide +kernel
theorem dX5_road_29 : decode cX5_road 29 = .ok (.idiv, 1) := by decide +kernel
theorem dX5_road_30 : decode cX5_road 30 = .ok (.iload_n 1, 1) := by decide +kernel
theorem dX5_road_31 : decode cX5_road 31 = .ok (.bipush 100, 2) := by decide +kernel
theorem dX5_road_33 : decode cX5_road 33 = .ok (.irem, 1) := by decide +kernel
theorem dX5_road_34 : decode cX5_road 34 = .ok (.if_icmp .eq 47, 3) := by decide +kernel
theorem dX5_road_37 : decode cX5_road 37 = .ok (.iload_n 2, 1) := by decide +kernel
theorem dX5_road_38 : decode cX5_road 38 = .ok (.iconst 1, 1) := by decide +kernel
theorem dX5_road_39 : decode cX5_road 39 = .ok (.sipush 200, 3) := by decide +kernel
theorem dX5_road_42 : decode cX5_road 42 = .ok (.invokestatic 87, 3) := by decide +kernel
theorem dX5_road_45 : decode cX5_road 45 = .ok (.ifCond .eq 36, 3) := by decide +kernel
theorem dX5_road_48 : decode cX5_road 48 = .ok (.iload_n 3, 1) := by decide +kernel
theorem dX5_road_49 : decode cX5_road 49 = .ok (.iconst 0, 1) := by decide +kernel
theorem dX5_road_50 : decode cX5_road 50 = .ok (.iconst 3, 1) := by decide +kernel
theorem dX5_road_51 : decode cX5_road 51 = .ok (.invokestatic 87, 3) := by decide +kernel
theorem dX5_road_54 : decode cX5_road 54 = .ok (.ifCond .eq 27, 3) := by decide +kernel
theorem dX5_road_57 : decode cX5_road 57 = .ok (.iload_n 3, 1) := by decide +kernel
theorem dX5_road_58 : decode cX5_road 58 = .ok (.iconst 3, 1) := by decide +kernel
theorem dX5_road_59 : decode cX5_road 59 = .ok (.if_icmp .ne 17, 3) := by decide +kernel
theorem dX5_road_62 : decode cX5_road 62 = .ok (.iload 4, 2) := by decide +kernel
theorem dX5_road_64 : decode cX5_road 64 = .ok (.iconst 1, 1) := by decide +kernel
theorem dX5_road_65 : decode cX5_road 65 = .ok (.bipush 99, 2) := by decide +kernel
theorem dX5_road_67 : decode cX5_road 67 = .ok (.invokestatic 87, 3) := by decide +kernel
theorem dX5_road_70 : decode cX5_road 70 = .ok (.ifCond .eq 11, 3) := by decide +kernel
theorem dX5_road_73 : decode cX5_road 73 = .ok (.goto 10, 3) := by decide +kernel
theorem dX5_road_76 : decode cX5_road 76 = .ok (.iload 4, 2) := by decide +kernel
theorem dX5_road_78 : decode cX5_road 78 = .ok (.ifCond .eq 5, 3) := by decide +kernel
theorem dX5_road_81 : decode cX5_road 81 = .ok (.iconst (-1), 1) := by decide +kernel
theorem dX5_road_82 : decode cX5_road 82 = .ok (.ireturn, 1) := by decide +kernel
theorem dX5_road_83 : decode cX5_road 83 = .ok (.aload_n 0, 1) := by decide +kernel
theorem dX5_road_84 : decode cX5_road 84 = .ok (.getfield 94, 3) := by decide +kernel
theorem dX5_road_87 : decode cX5_road 87 = .ok (.bipush 30, 2) := by decide +kernel
theorem dX5_road_89 : decode cX5_road 89 = .ok (.if_icmp .ne 6, 3) := by decide +kernel
theorem dX5_road_92 : decode cX5_road 92 = .ok (.bipush (-2), 2) := by decide +kernel
theorem dX5_road_94 : decode cX5_road 94 = .ok (.ireturn, 1) := by decide +kernel
theorem dX5_road_95 : decode cX5_road 95 = .ok (.aload_n 0, 1) := by decide +kernel
theorem dX5_road_96 : decode cX5_road 96 = .ok (.getfield 16, 3) := by decide +kernel
theorem dX5_road_99 : decode cX5_road 99 = .ok (.aload_n 0, 1) := by decide +kernel
theorem dX5_road_100 : decode cX5_road 100 = .ok (.getfield 94, 3) := by decide +kernel
theorem dX5_road_103 : decode cX5_road 103 = .ok (.iload_n 1, 1) := by decide +kernel
theorem dX5_road_104 : decode cX5_road 104 = .ok (.bipush 100, 2) := by decide +kernel
theorem dX5_road_106 : decode cX5_road 106 = .ok (.idiv, 1) := by decide +kernel
theorem dX5_road_107 : decode cX5_road 107 = .ok (.iastore, 1) := by decide +kernel
theorem dX5_road_108 : decode cX5_road 108 = .ok (.aload_n 0, 1) := by decide +kernel
theorem dX5_road_109 : decode cX5_road 109 = .ok (.getfield 19, 3) := by decide +kernel
theorem dX5_road_112 : decode cX5_road 112 = .ok (.aload_n 0, 1) := by decide +kernel
theorem dX5_road_113 : decode cX5_road 113 = .ok (.getfield 94, 3) := by decide +kernel
theorem dX5_road_116 : decode cX5_road 116 = .ok (.iload_n 1, 1) := by decide +kernel
theorem dX5_road_117 : decode cX5_road 117 = .ok (.bipush 100, 2) := by decide +kernel
theorem dX5_road_119 : decode cX5_road 119 = .ok (.irem, 1) := by decide +kernel
theorem dX5_road_120 : decode cX5_road 120 = .ok (.iastore, 1) := by decide +kernel
theorem dX5_road_121 : decode cX5_road 121 = .ok (.aload_n 0, 1) := by decide +kernel
theorem dX5_road_122 : decode cX5_road 122 = .ok (.getfield 22, 3) := by decide +kernel
theorem dX5_road_125 : decode cX5_road 125 = .ok (.aload_n 0, 1) := by decide +kernel
theorem dX5_road_126 : decode cX5_road 126 = .ok (.getfield 94, 3) := by decide +kernel
theorem dX5_road_129 : decode cX5_road 129 = .ok (.iload_n 2, 1) := by decide +kernel
theorem dX5_road_130 : decode cX5_road 130 = .ok (.iastore, 1) := by decide +kernel
theorem dX5_road_131 : decode cX5_road 131 = .ok (.aload_n 0, 1) := by decide +kernel
theorem dX5_road_132 : decode cX5_road 132 = .ok (.getfield 25, 3) := by decide +kernel
theorem dX5_road_135 : decode cX5_road 135 = .ok (.aload_n 0, 1) := by decide +kernel
theorem dX5_road_136 : decode cX5_road 136 = .ok (.getfield 94, 3) := by decide +kernel
theorem dX5_road_139 : decode cX5_road 139 = .ok (.iload_n 3, 1) := by decide +kernel
theorem dX5_road_140 : decode cX5_road 140 = .ok (.iastore, 1) := by decide +kernel
theorem dX5_road_141 : decode cX5_road 141 = .ok (.aload_n 0, 1) := by decide +kernel
theorem dX5_road_142 : decode cX5_road 142 = .ok (.getfield 28, 3) := by decide +kernel
theorem dX5_road_145 : decode cX5_road 145 = .ok (.aload_n 0, 1) := by decide +kernel
theorem dX5_road_146 : decode cX5_road 146 = .ok (.getfield 94, 3) := by decide +kernel
theorem dX5_road_149 : decode cX5_road 149 = .ok (.iload 4, 2) := by decide +kernel
theorem dX5_road_151 : decode cX5_road 151 = .ok (.iastore, 1) := by decide +kernel
theorem dX5_road_152 : decode cX5_road 152 = .ok (.aload_n 0, 1) := by decide +kernel
theorem dX5_road_153 : decode cX5_road 153 = .ok (.dup, 1) := by decide +kernel
theorem dX5_road_154 : decode cX5_road 154 = .ok (.getfield 94, 3) := by decide +kernel
theorem dX5_road_157 : decode cX5_road 157 = .ok (.iconst 1, 1) := by decide +kernel
theorem dX5_road_158 : decode cX5_road 158 = .ok (.iadd, 1) := by decide +kernel
theorem dX5_road_159 : decode cX5_road 159 = .ok (.putfield 94, 3) := by decide +kernel
theorem dX5_road_162 : decode cX5_road 162 = .ok (.aload_n 0, 1) := by decide +kernel
theorem dX5_road_163 : decode cX5_road 163 = .ok (.iconst 0, 1) := by decide +kernel
theorem dX5_road_164 : decode cX5_road 164 = .ok (.putfield 101, 3) := by decide +kernel
theorem dX5_road_167 : decode cX5_road 167 = .ok (.aload_n 0, 1) := by decide +kernel
theorem dX5_road_168 : decode cX5_road 168 = .ok (.getfield 94, 3) := by decide +kernel
theorem dX5_road_171 : decode cX5_road 171 = .ok (.iconst 1, 1) := by decide +kernel
theorem dX5_road_172 : decode cX5_road 172 = .ok (.isub, 1) := by decide +kernel
theorem dX5_road_173 : decode cX5_road 173 = .ok (.ireturn, 1) := by decide +kernel
theorem dX5_bar_0 : decode cX5_bar 0 = .ok (.aload_n 0, 1) := by decide +kernel
theorem dX5_bar_1 : decode cX5_bar 1 = .ok (.iload_n 1, 1) := by decide +kernel
theorem dX5_bar_2 : decode cX5_bar 2 = .ok (.invokevirtual 105, 3) := by decide +kernel
theorem dX5_bar_5 : decode cX5_bar 5 = .ok (.ifCond .eq 20, 3) := by decide +kernel
theorem dX5_bar_8 : decode cX5_bar 8 = .ok (.aload_n 0, 1) := by decide +kernel
theorem dX5_bar_9 : decode cX5_bar 9 = .ok (.iload_n 2, 1) := by decide +kernel
theorem dX5_bar_10 : decode cX5_bar 10 = .ok (.invokevirtual 105, 3) := by decide +kernel
theorem dX5_bar_13 : decode cX5_bar 13 = .ok (.ifCond .eq 12, 3) := by decide +kernel
theorem dX5_bar_16 : decode cX5_bar 16 = .ok (.iload_n 3, 1) := by decide +kernel
theorem dX5_bar_17 : decode cX5_bar 17 = .ok (.iconst 0, 1) := by decide +kernel
theorem dX5_bar_18 : decode cX5_bar 18 = .ok (.iconst 1, 1) := by decide +kernel
theorem dX5_bar_19 : decode cX5_bar 19 = .ok (.invokestatic 87, 3) := by decide +kernel
theorem dX5_bar_22 : decode cX5_bar 22 = .ok (.ifCond .ne 5, 3) := by decide +kernel
theorem dX5_bar_25 : decode cX5_bar 25 = .ok (.iconst (-1), 1) := by decide +kernel
theorem dX5_bar_26 : decode cX5_bar 26 = .ok (.ireturn, 1) := by decide +kernel
theorem dX5_bar_27 : decode cX5_bar 27 = .ok (.aload_n 0, 1) := by decide +kernel
theorem dX5_bar_28 : decode cX5_bar 28 = .ok (.getfield 16, 3) := by decide +kernel
theorem dX5_bar_31 : decode cX5_bar 31 = .ok (.iload_n 1, 1) := by decide +kernel
theorem dX5_bar_32 : decode cX5_bar 32 = .ok (.iaload, 1) := by decide +kernel
theorem dX5_bar_33 : decode cX5_bar 33 = .ok (.aload_n 0, 1) := by decide +kernel
theorem dX5_bar_34 : decode cX5_bar 34 = .ok (.getfield 16, 3) := by decide +kernel
theorem dX5_bar_37 : decode cX5_bar 37 = .ok (.iload_n 2, 1) := by decide +kernel
theorem dX5_bar_38 : decode cX5_bar 38 = .ok (.iaload, 1) := by decide +kernel
theorem dX5_bar_39 : decode cX5_bar 39 = .ok (.if_icmp .eq 50, 3) := by decide +kernel
theorem dX5_bar_42 : decode cX5_bar 42 = .ok (.aload_n 0, 1) := by decide +kernel
theorem dX5_bar_43 : decode cX5_bar 43 = .ok (.getfield 16, 3) := by decide +kernel
theorem dX5_bar_46 : decode cX5_bar 46 = .ok (.iload_n 1, 1) := by decide +kernel
theorem dX5_bar_47 : decode cX5_bar 47 = .ok (.iaload, 1) := by decide +kernel
theorem dX5_bar_48 : decode cX5_bar 48 = .ok (.aload_n 0, 1) := by decide +kernel
theorem dX5_bar_49 : decode cX5_bar 49 = .ok (.getfield 19, 3) := by decide +kernel
theorem dX5_bar_52 : decode cX5_bar 52 = .ok (.iload_n 2, 1) := by decide +kernel
theorem dX5_bar_53 : decode cX5_bar 53 = .ok (.iaload, 1) := by decide +kernel
theorem dX5_bar_54 : decode cX5_bar 54 = .ok (.if_icmp .eq 35, 3) := by decide +kernel
theorem dX5_bar_57 : decode cX5_bar 57 = .ok (.aload_n 0, 1) := by decide +kernel
theorem dX5_bar_58 : decode cX5_bar 58 = .ok (.getfield 19, 3) := by decide +kernel
theorem dX5_bar_61 : decode cX5_bar 61 = .ok (.iload_n 1, 1) := by decide +kernel
theorem dX5_bar_62 : decode cX5_bar 62 = .ok (.iaload, 1) := by decide +kernel
theorem dX5_bar_63 : decode cX5_bar 63 = .ok (.aload_n 0, 1) := by decide +kernel
theorem dX5_bar_64 : decode cX5_bar 64 = .ok (.getfield 16, 3) := by decide +kernel
theorem dX5_bar_67 : decode cX5_bar 67 = .ok (.iload_n 2, 1) := by decide +kernel
theorem dX5_bar_68 : decode cX5_bar 68 = .ok (.iaload, 1) := by decide +kernel
theorem dX5_bar_69 : decode cX5_bar 69 = .ok (.if_icmp .eq 20, 3) := by decide +kernel
theorem dX5_bar_72 : decode cX5_bar 72 = .ok (.aload_n 0, 1) := by decide +kernel
theorem dX5_bar_73 : decode cX5_bar 73 = .ok (.getfield 19, 3) := by decide +kernel
theorem dX5_bar_76 : decode cX5_bar 76 = .ok (.iload_n 1, 1) := by decide +kernel
theorem dX5_bar_77 : decode cX5_bar 77 = .ok (.iaload, 1) := by decide +kernel
theorem dX5_bar_78 : decode cX5_bar 78 = .ok (.aload_n 0, 1) := by decide +kernel
theorem dX5_bar_79 : decode cX5_bar 79 = .ok (.getfield 19, 3) := by decide +kernel
theorem dX5_bar_82 : decode cX5_bar 82 = .ok (.iload_n 2, 1) := by decide +kernel
theorem dX5_bar_83 : decode cX5_bar 83 = .ok (.iaload, 1) := by decide +kernel
theorem dX5_bar_84 : decode cX5_bar 84 = .ok (.if_icmp .eq 5, 3) := by decide +kernel
theorem dX5_bar_87 : decode cX5_bar 87 = .ok (.iconst (-1), 1) := by decide +kernel
theorem dX5_bar_88 : decode cX5_bar 88 = .ok (.ireturn, 1) := by decide +kernel
theorem dX5_bar_89 : decode cX5_bar 89 = .ok (.aload_n 0, 1) := by decide +kernel
theorem dX5_bar_90 : decode cX5_bar 90 = .ok (.getfield 31, 3) := by decide +kernel
theorem dX5_bar_93 : decode cX5_bar 93 = .ok (.bipush 30, 2) := by decide +kernel
theorem dX5_bar_95 : decode cX5_bar 95 = .ok (.iload_n 1, 1) := by decide +kernel
theorem dX5_bar_96 : decode cX5_bar 96 = .ok (.imul, 1) := by decide +kernel
theorem dX5_bar_97 : decode cX5_bar 97 = .ok (.iload_n 2, 1) := by decide +kernel
theorem dX5_bar_98 : decode cX5_bar 98 = .ok (.iadd, 1) := by decide +kernel
theorem dX5_bar_99 : decode cX5_bar 99 = .ok (.baload, 1) := by decide +kernel
theorem dX5_bar_100 : decode cX5_bar 100 = .ok (.ifCond .eq 7, 3) := by decide +kernel
theorem dX5_bar_103 : decode cX5_bar 103 = .ok (.iconst 1, 1) := by decide +kernel
theorem dX5_bar_104 : decode cX5_bar 104 = .ok (.goto 4, 3) := by decide +kernel
theorem dX5_bar_107 : decode cX5_bar 107 = .ok (.iconst 0, 1) := by decide +kernel
theorem dX5_bar_108 : decode cX5_bar 108 = .ok (.istore 4, 2) := by decide +kernel
theorem dX5_bar_110 : decode cX5_bar 110 = .ok (.aload_n 0, 1) := by decide +kernel
theorem dX5_bar_111 : decode cX5_bar 111 = .ok (.getfield 31, 3) := by decide +kernel
theorem dX5_bar_114 : decode cX5_bar 114 = .ok (.bipush 30, 2) := by decide +kernel
theorem dX5_bar_116 : decode cX5_bar 116 = .ok (.iload_n 1, 1) := by decide +kernel
theorem dX5_bar_117 : decode cX5_bar 117 = .ok (.imul, 1) := by decide +kernel
theorem dX5_bar_118 : decode cX5_bar 118 = .ok (.iload_n 2, 1) := by decide +kernel
theorem dX5_bar_119 : decode cX5_bar 119 = .ok (.iadd, 1) := by decide +kernel
theorem dX5_bar_120 : decode cX5_bar 120 = .ok (.iload_n 3, 1) := by decide +kernel
theorem dX5_bar_121 : decode cX5_bar 121 = .ok (.iconst 1, 1) := by decide +kernel
theorem dX5_bar_122 : decode cX5_bar 122 = .ok (.if_icmp .ne 7, 3) := by decide +kernel
theorem dX5_bar_125 : decode cX5_bar 125 = .ok (.iconst 1, 1) := by decide +kernel
theorem dX5_bar_126 : decode cX5_bar 126 = .ok (.goto 4, 3) := by decide +kernel
theorem dX5_bar_129 : decode cX5_bar 129 = .ok (.iconst 0, 1) := by decide +kernel
theorem dX5_bar_130 : decode cX5_bar 130 = .ok (.bastore, 1) := by decide +kernel
theorem dX5_bar_131 : decode cX5_bar 131 = .ok (.aload_n 0, 1) := by decide +kernel
theorem dX5_bar_132 : decode cX5_bar 132 = .ok (.iconst 0, 1) := by decide +kernel
theorem dX5_bar_133 : decode cX5_bar 133 = .ok (.putfield 101, 3) := by decide +kernel
theorem dX5_bar_136 : decode cX5_bar 136 = .ok (.iload 4, 2) := by decide +kernel
theorem dX5_bar_138 : decode cX5_bar 138 = .ok (.ireturn, 1) := by decide +kernel
theorem dX5_knotOf_0 : decode cX5_knotOf 0 = .ok (.iload_n 1, 1) := by decide +kernel
theorem dX5_knotOf_1 : decode cX5_knotOf 1 = .ok (.iconst 2, 1) := by decide +kernel
theorem dX5_knotOf_2 : decode cX5_knotOf 2 = .ok (.irem, 1) := by decide +kernel
theorem dX5_knotOf_3 : decode cX5_knotOf 3 = .ok (.ifCond .ne 14, 3) := by decide +kernel
theorem dX5_knotOf_6 : decode cX5_knotOf 6 = .ok (.aload_n 0, 1) := by decide +kernel
theorem dX5_knotOf_7 : decode cX5_knotOf 7 = .ok (.getfield 16, 3) := by decide +kernel
theorem dX5_knotOf_10 : decode cX5_knotOf 10 = .ok (.iload_n 1, 1) := by decide +kernel
theorem dX5_knotOf_11 : decode cX5_knotOf 11 = .ok (.iconst 2, 1) := by decide +kernel
theorem dX5_knotOf_12 : decode cX5_knotOf 12 = .ok (.idiv, 1) := by decide +kernel
theorem dX5_knotOf_13 : decode cX5_knotOf 13 = .ok (.iaload, 1) := by decide +kernel
theorem dX5_knotOf_14 : decode cX5_knotOf 14 = .ok (.goto 11, 3) := by decide +kernel
theorem dX5_knotOf_17 : decode cX5_knotOf 17 = .ok (.aload_n 0, 1) := by decide +kernel
theorem dX5_knotOf_18 : decode cX5_knotOf 18 = .ok (.getfield 19, 3) := by decide +kernel
theorem dX5_knotOf_21 : decode cX5_knotOf 21 = .ok (.iload_n 1, 1) := by decide +kernel
theorem dX5_knotOf_22 : decode cX5_knotOf 22 = .ok (.iconst 2, 1) := by decide +kernel
theorem dX5_knotOf_23 : decode cX5_knotOf 23 = .ok (.idiv, 1) := by decide +kernel
theorem dX5_knotOf_24 : decode cX5_knotOf 24 = .ok (.iaload, 1) := by decide +kernel
theorem dX5_knotOf_25 : decode cX5_knotOf 25 = .ok (.ireturn, 1) := by decide +kernel
theorem dX5_come_0 : decode cX5_come 0 = .ok (.iload_n 2, 1) := by decide +kernel
theorem dX5_come_1 : decode cX5_come 1 = .ok (.aload_n 0, 1) := by decide +kernel
theorem dX5_come_2 : decode cX5_come 2 = .ok (.getfield 66, 3) := by decide +kernel
theorem dX5_come_5 : decode cX5_come 5 = .ok (.iload_n 1, 1) := by decide +kernel
theorem dX5_come_6 : decode cX5_come 6 = .ok (.iaload, 1) := by decide +kernel
theorem dX5_come_7 : decode cX5_come 7 = .ok (.if_icmp .gt 23, 3) := by decide +kernel
theorem dX5_come_10 : decode cX5_come 10 = .ok (.iload_n 2, 1) := by decide +kernel
theorem dX5_come_11 : decode cX5_come 11 = .ok (.aload_n 0, 1) := by decide +kernel
theorem dX5_come_12 : decode cX5_come 12 = .ok (.getfield 66, 3) := by decide +kernel
theorem dX5_come_15 : decode cX5_come 15 = .ok (.iload_n 1, 1) := by decide +kernel
theorem dX5_come_16 : decode cX5_come 16 = .ok (.iaload, 1) := by decide +kernel
theorem dX5_come_17 : decode cX5_come 17 = .ok (.if_icmp .ne 15, 3) := by decide +kernel
theorem dX5_come_20 : decode cX5_come 20 = .ok (.iload_n 3, 1) := by decide +kernel
theorem dX5_come_21 : decode cX5_come 21 = .ok (.aload_n 0, 1) := by decide +kernel
theorem dX5_come_22 : decode cX5_come 22 = .ok (.getfield 69, 3) := by decide +kernel
theorem dX5_come_25 : decode cX5_come 25 = .ok (.iload_n 1, 1) := by decide +kernel
theorem dX5_come_26 : decode cX5_come 26 = .ok (.iaload, 1) := by decide +kernel
theorem dX5_come_27 : decode cX5_come 27 = .ok (.if_icmp .lt 5, 3) := by decide +kernel
theorem dX5_come_30 : decode cX5_come 30 = .ok (.iconst 0, 1) := by decide +kernel
theorem dX5_come_31 : decode cX5_come 31 = .ok (.ireturn, 1) := by decide +kernel
theorem dX5_come_32 : decode cX5_come 32 = .ok (.aload_n 0, 1) := by decide +kernel
theorem dX5_come_33 : decode cX5_come 33 = .ok (.getfield 66, 3) := by decide +kernel
theorem dX5_come_36 : decode cX5_come 36 = .ok (.iload_n 1, 1) := by decide +kernel
theorem dX5_come_37 : decode cX5_come 37 = .ok (.iload_n 2, 1) := by decide +kernel
theorem dX5_come_38 : decode cX5_come 38 = .ok (.iastore, 1) := by decide +kernel
theorem dX5_come_39 : decode cX5_come 39 = .ok (.aload_n 0, 1) := by decide +kernel
theorem dX5_come_40 : decode cX5_come 40 = .ok (.getfield 69, 3) := by decide +kernel
theorem dX5_come_43 : decode cX5_come 43 = .ok (.iload_n 1, 1) := by decide +kernel
theorem dX5_come_44 : decode cX5_come 44 = .ok (.iload_n 3, 1) := by decide +kernel
theorem dX5_come_45 : decode cX5_come 45 = .ok (.iastore, 1) := by decide +kernel
theorem dX5_come_46 : decode cX5_come 46 = .ok (.iconst 1, 1) := by decide +kernel
theorem dX5_come_47 : decode cX5_come 47 = .ok (.ireturn, 1) := by decide +kernel
theorem dX5_feeOf_0 : decode cX5_feeOf 0 = .ok (.iload_n 2, 1) := by decide +kernel
theorem dX5_feeOf_1 : decode cX5_feeOf 1 = .ok (.ifCond .le 12, 3) := by decide +kernel
theorem dX5_feeOf_4 : decode cX5_feeOf 4 = .ok (.aload_n 0, 1) := by decide +kernel
theorem dX5_feeOf_5 : decode cX5_feeOf 5 = .ok (.getfield 28, 3) := by decide +kernel
theorem dX5_feeOf_8 : decode cX5_feeOf 8 = .ok (.iload_n 1, 1) := by decide +kernel
theorem dX5_feeOf_9 : decode cX5_feeOf 9 = .ok (.iaload, 1) := by decide +kernel
theorem dX5_feeOf_10 : decode cX5_feeOf 10 = .ok (.goto 4, 3) := by decide +kernel
theorem dX5_feeOf_13 : decode cX5_feeOf 13 = .ok (.iconst 0, 1) := by decide +kernel
theorem dX5_feeOf_14 : decode cX5_feeOf 14 = .ok (.ireturn, 1) := by decide +kernel
theorem dX5_comeFrom_0 : decode cX5_comeFrom 0 = .ok (.iload_n 1, 1) := by decide +kernel
theorem dX5_comeFrom_1 : decode cX5_comeFrom 1 = .ok (.iconst 5, 1) := by decide +kernel
theorem dX5_comeFrom_2 : decode cX5_comeFrom 2 = .ok (.idiv, 1) := by decide +kernel
theorem dX5_comeFrom_3 : decode cX5_comeFrom 3 = .ok (.istore_n 2, 1) := by decide +kernel
theorem dX5_comeFrom_4 : decode cX5_comeFrom 4 = .ok (.iload_n 1, 1) := by decide +kernel
theorem dX5_comeFrom_5 : decode cX5_comeFrom 5 = .ok (.iconst 5, 1) := by decide +kernel
theorem dX5_comeFrom_6 : decode cX5_comeFrom 6 = .ok (.irem, 1) := by decide +kernel
theorem dX5_comeFrom_7 : decode cX5_comeFrom 7 = .ok (.istore_n 3, 1) := by decide +kernel
theorem dX5_comeFrom_8 : decode cX5_comeFrom 8 = .ok (.iconst 0, 1) := by decide +kernel
theorem dX5_comeFrom_9 : decode cX5_comeFrom 9 = .ok (.istore 4, 2) := by decide +kernel
theorem dX5_comeFrom_11 : decode cX5_comeFrom 11 = .ok (.iload 4, 2) := by decide +kernel
theorem dX5_comeFrom_13 : decode cX5_comeFrom 13 = .ok (.bipush 60, 2) := by decide +kernel
theorem dX5_comeFrom_15 : decode cX5_comeFrom 15 = .ok (.if_icmp .ge 26, 3) := by decide +kernel
theorem dX5_comeFrom_18 : decode cX5_comeFrom 18 = .ok (.aload_n 0, 1) := by decide +kernel
theorem dX5_comeFrom_19 : decode cX5_comeFrom 19 = .ok (.getfield 66, 3) := by decide +kernel
theorem dX5_comeFrom_22 : decode cX5_comeFrom 22 = .ok (.iload 4, 2) := by decide +kernel
theorem dX5_comeFrom_24 : decode cX5_comeFrom 24 = .ok (.ldc 108, 2) := by decide +kernel
theorem dX5_comeFrom_26 : decode cX5_comeFrom 26 = .ok (.iastore, 1) := by decide +kernel
theorem dX5_comeFrom_27 : decode cX5_comeFrom 27 = .ok (.aload_n 0, 1) := by decide +kernel
theorem dX5_comeFrom_28 : decode cX5_comeFrom 28 = .ok (.getfield 69, 3) := by decide +kernel
theorem dX5_comeFrom_31 : decode cX5_comeFrom 31 = .ok (.iload 4, 2) := by decide +kernel
theorem dX5_comeFrom_33 : decode cX5_comeFrom 33 = .ok (.iconst 0, 1) := by decide +kernel
theorem dX5_comeFrom_34 : decode cX5_comeFrom 34 = .ok (.iastore, 1) := by decide +kernel
theorem dX5_comeFrom_35 : decode cX5_comeFrom 35 = .ok (.iinc 4 1, 3) := by decide +kernel
theorem dX5_comeFrom_38 : decode cX5_comeFrom 38 = .ok (.goto (-27), 3) := by decide +kernel
theorem dX5_comeFrom_41 : decode cX5_comeFrom 41 = .ok (.aload_n 0, 1) := by decide +kernel
theorem dX5_comeFrom_42 : decode cX5_comeFrom 42 = .ok (.iconst 2, 1) := by decide +kernel
theorem dX5_comeFrom_43 : decode cX5_comeFrom 43 = .ok (.iload_n 2, 1) := by decide +kernel
theorem dX5_comeFrom_44 : decode cX5_comeFrom 44 = .ok (.imul, 1) := by decide +kernel
theorem dX5_comeFrom_45 : decode cX5_comeFrom 45 = .ok (.iconst 1, 1) := by decide +kernel
theorem dX5_comeFrom_46 : decode cX5_comeFrom 46 = .ok (.iadd, 1) := by decide +kernel
theorem dX5_comeFrom_47 : decode cX5_comeFrom 47 = .ok (.iconst 4, 1) := by decide +kernel
theorem dX5_comeFrom_48 : decode cX5_comeFrom 48 = .ok (.iload_n 3, 1) := by decide +kernel
theorem dX5_comeFrom_49 : decode cX5_comeFrom 49 = .ok (.isub, 1) := by decide +kernel
theorem dX5_comeFrom_50 : decode cX5_comeFrom 50 = .ok (.aload_n 0, 1) := by decide +kernel
theorem dX5_comeFrom_51 : decode cX5_comeFrom 51 = .ok (.getfield 22, 3) := by decide +kernel
theorem dX5_comeFrom_54 : decode cX5_comeFrom 54 = .ok (.iload_n 2, 1) := by decide +kernel
theorem dX5_comeFrom_55 : decode cX5_comeFrom 55 = .ok (.iaload, 1) := by decide +kernel
theorem dX5_comeFrom_56 : decode cX5_comeFrom 56 = .ok (.imul, 1) := by decide +kernel
theorem dX5_comeFrom_57 : decode cX5_comeFrom 57 = .ok (.aload_n 0, 1) := by decide +kernel
theorem dX5_comeFrom_58 : decode cX5_comeFrom 58 = .ok (.iload_n 2, 1) := by decide +kernel
theorem dX5_comeFrom_59 : decode cX5_comeFrom 59 = .ok (.iconst 4, 1) := by decide +kernel
theorem dX5_comeFrom_60 : decode cX5_comeFrom 60 = .ok (.iload_n 3, 1) := by decide +kernel
theorem dX5_comeFrom_61 : decode cX5_comeFrom 61 = .ok (.isub, 1) := by decide +kernel
theorem dX5_comeFrom_62 : decode cX5_comeFrom 62 = .ok (.invokevirtual 109, 3) := by decide +kernel
theorem dX5_comeFrom_65 : decode cX5_comeFrom 65 = .ok (.invokevirtual 113, 3) := by decide +kernel
theorem dX5_comeFrom_68 : decode cX5_comeFrom 68 = .ok (.istore 4, 2) := by decide +kernel
theorem dX5_comeFrom_70 : decode cX5_comeFrom 70 = .ok (.aload_n 0, 1) := by decide +kernel
theorem dX5_comeFrom_71 : decode cX5_comeFrom 71 = .ok (.getfield 25, 3) := by decide +kernel
theorem dX5_comeFrom_74 : decode cX5_comeFrom 74 = .ok (.iload_n 2, 1) := by decide +kernel
theorem dX5_comeFrom_75 : decode cX5_comeFrom 75 = .ok (.iaload, 1) := by decide +kernel
theorem dX5_comeFrom_76 : decode cX5_comeFrom 76 = .ok (.iconst 1, 1) := by decide +kernel
theorem dX5_comeFrom_77 : decode cX5_comeFrom 77 = .ok (.if_icmp .ne 7, 3) := by decide +kernel
theorem dX5_comeFrom_80 : decode cX5_comeFrom 80 = .ok (.iload_n 3, 1) := by decide +kernel
theorem dX5_comeFrom_81 : decode cX5_comeFrom 81 = .ok (.ifCond .ne 39, 3) := by decide +kernel
theorem dX5_comeFrom_84 : decode cX5_comeFrom 84 = .ok (.aload_n 0, 1) := by decide +kernel
theorem dX5_comeFrom_85 : decode cX5_comeFrom 85 = .ok (.iconst 2, 1) := by decide +kernel
theorem dX5_comeFrom_86 : decode cX5_comeFrom 86 = .ok (.iload_n 2, 1) := by decide +kernel
theorem dX5_comeFrom_87 : decode cX5_comeFrom 87 = .ok (.imul, 1) := by decide +kernel
theorem dX5_comeFrom_88 : decode cX5_comeFrom 88 = .ok (.iload_n 3, 1) := by decide +kernel
theorem dX5_comeFrom_89 : decode cX5_comeFrom 89 = .ok (.aload_n 0, 1) := by decide +kernel
theorem dX5_comeFrom_90 : decode cX5_comeFrom 90 = .ok (.getfield 22, 3) := by decide +kernel
theorem dX5_comeFrom_93 : decode cX5_comeFrom 93 = .ok (.iload_n 2, 1) := by decide +kernel
theorem dX5_comeFrom_94 : decode cX5_comeFrom 94 = .ok (.iaload, 1) := by decide +kernel
theorem dX5_comeFrom_95 : decode cX5_comeFrom 95 = .ok (.imul, 1) := by decide +kernel
theorem dX5_comeFrom_96 : decode cX5_comeFrom 96 = .ok (.aload_n 0, 1) := by decide +kernel
theorem dX5_comeFrom_97 : decode cX5_comeFrom 97 = .ok (.iload_n 2, 1) := by decide +kernel
theorem dX5_comeFrom_98 : decode cX5_comeFrom 98 = .ok (.iload_n 3, 1) := by decide +kernel
theorem dX5_comeFrom_99 : decode cX5_comeFrom 99 = .ok (.invokevirtual 109, 3) := by decide +kernel
theorem dX5_comeFrom_102 : decode cX5_comeFrom 102 = .ok (.invokevirtual 113, 3) := by decide +kernel
theorem dX5_comeFrom_105 : decode cX5_comeFrom 105 = .ok (.ifCond .ne 8, 3) := by decide +kernel
theorem dX5_comeFrom_108 : decode cX5_comeFrom 108 = .ok (.iload 4, 2) := by decide +kernel
theorem dX5_comeFrom_110 : decode cX5_comeFrom 110 = .ok (.ifCond .eq 7, 3) := by decide +kernel
theorem dX5_comeFrom_113 : decode cX5_comeFrom 113 = .ok (.iconst 1, 1) := by decide +kernel
theorem dX5_comeFrom_114 : decode cX5_comeFrom 114 = .ok (.goto 4, 3) := by decide +kernel
theorem dX5_comeFrom_117 : decode cX5_comeFrom 117 = .ok (.iconst 0, 1) := by decide +kernel
theorem dX5_comeFrom_118 : decode cX5_comeFrom 118 = .ok (.istore 4, 2) := by decide +kernel
theorem dX5_comeFrom_120 : decode cX5_comeFrom 120 = .ok (.iload 4, 2) := by decide +kernel
theorem dX5_comeFrom_122 : decode cX5_comeFrom 122 = .ok (.ifCond .eq 62, 3) := by decide +kernel
theorem dX5_comeFrom_125 : decode cX5_comeFrom 125 = .ok (.iconst 0, 1) := by decide +kernel
theorem dX5_comeFrom_126 : decode cX5_comeFrom 126 = .ok (.istore 4, 2) := by decide +kernel
theorem dX5_comeFrom_128 : decode cX5_comeFrom 128 = .ok (.iconst 0, 1) := by decide +kernel
theorem dX5_comeFrom_129 : decode cX5_comeFrom 129 = .ok (.istore 5, 2) := by decide +kernel
theorem dX5_comeFrom_131 : decode cX5_comeFrom 131 = .ok (.iload 5, 2) := by decide +kernel
theorem dX5_comeFrom_133 : decode cX5_comeFrom 133 = .ok (.iconst 2, 1) := by decide +kernel
theorem dX5_comeFrom_134 : decode cX5_comeFrom 134 = .ok (.aload_n 0, 1) := by decide +kernel
theorem dX5_comeFrom_135 : decode cX5_comeFrom 135 = .ok (.getfield 94, 3) := by decide +kernel
theorem dX5_comeFrom_138 : decode cX5_comeFrom 138 = .ok (.imul, 1) := by decide +kernel
theorem dX5_comeFrom_139 : decode cX5_comeFrom 139 = .ok (.if_icmp .ge 42, 3) := by decide +kernel
theorem dX5_comeFrom_142 : decode cX5_comeFrom 142 = .ok (.aload_n 0, 1) := by decide +kernel
theorem dX5_comeFrom_143 : decode cX5_comeFrom 143 = .ok (.getfield 66, 3) := by decide +kernel
theorem dX5_comeFrom_146 : decode cX5_comeFrom 146 = .ok (.iload 5, 2) := by decide +kernel
theorem dX5_comeFrom_148 : decode cX5_comeFrom 148 = .ok (.iaload, 1) := by decide +kernel
theorem dX5_comeFrom_149 : decode cX5_comeFrom 149 = .ok (.ldc 108, 2) := by decide +kernel
theorem dX5_comeFrom_151 : decode cX5_comeFrom 151 = .ok (.if_icmp .ge 24, 3) := by decide +kernel
theorem dX5_comeFrom_154 : decode cX5_comeFrom 154 = .ok (.aload_n 0, 1) := by decide +kernel
theorem dX5_comeFrom_155 : decode cX5_comeFrom 155 = .ok (.iload 5, 2) := by decide +kernel
theorem dX5_comeFrom_157 : decode cX5_comeFrom 157 = .ok (.invokevirtual 116, 3) := by decide +kernel
theorem dX5_comeFrom_160 : decode cX5_comeFrom 160 = .ok (.ifCond .ne 8, 3) := by decide +kernel
theorem dX5_comeFrom_163 : decode cX5_comeFrom 163 = .ok (.iload 4, 2) := by decide +kernel
theorem dX5_comeFrom_165 : decode cX5_comeFrom 165 = .ok (.ifCond .eq 7, 3) := by decide +kernel
theorem dX5_comeFrom_168 : decode cX5_comeFrom 168 = .ok (.iconst 1, 1) := by decide +kernel
theorem dX5_comeFrom_169 : decode cX5_comeFrom 169 = .ok (.goto 4, 3) := by decide +kernel
theorem dX5_comeFrom_172 : decode cX5_comeFrom 172 = .ok (.iconst 0, 1) := by decide +kernel
theorem dX5_comeFrom_173 : decode cX5_comeFrom 173 = .ok (.istore 4, 2) := by decide +kernel
theorem dX5_comeFrom_175 : decode cX5_comeFrom 175 = .ok (.iinc 5 1, 3) := by decide +kernel
theorem dX5_comeFrom_178 : decode cX5_comeFrom 178 = .ok (.goto (-47), 3) := by decide +kernel
theorem dX5_comeFrom_181 : decode cX5_comeFrom 181 = .ok (.goto (-61), 3) := by decide +kernel
theorem dX5_comeFrom_184 : decode cX5_comeFrom 184 = .ok (.return_, 1) := by decide +kernel
theorem dX5_goOn_0 : decode cX5_goOn 0 = .ok (.iconst 0, 1) := by decide +kernel
theorem dX5_goOn_1 : decode cX5_goOn 1 = .ok (.istore_n 2, 1) := by decide +kernel
theorem dX5_goOn_2 : decode cX5_goOn 2 = .ok (.iconst 0, 1) := by decide +kernel
theorem dX5_goOn_3 : decode cX5_goOn 3 = .ok (.istore_n 3, 1) := by decide +kernel
theorem dX5_goOn_4 : decode cX5_goOn 4 = .ok (.iload_n 3, 1) := by decide +kernel
theorem dX5_goOn_5 : decode cX5_goOn 5 = .ok (.aload_n 0, 1) := by decide +kernel
theorem dX5_goOn_6 : decode cX5_goOn 6 = .ok (.getfield 94, 3) := by decide +kernel
theorem dX5_goOn_9 : decode cX5_goOn 9 = .ok (.if_icmp .ge 161, 3) := by decide +kernel
theorem dX5_goOn_12 : decode cX5_goOn 12 = .ok (.aload_n 0, 1) := by decide +kernel
theorem dX5_goOn_13 : decode cX5_goOn 13 = .ok (.getfield 31, 3) := by decide +kernel
theorem dX5_goOn_16 : decode cX5_goOn 16 = .ok (.bipush 30, 2) := by decide +kernel
theorem dX5_goOn_18 : decode cX5_goOn 18 = .ok (.iload_n 1, 1) := by decide +kernel
theorem dX5_goOn_19 : decode cX5_goOn 19 = .ok (.iconst 2, 1) := by decide +kernel
theorem dX5_goOn_20 : decode cX5_goOn 20 = .ok (.idiv, 1) := by decide +kernel
theorem dX5_goOn_21 : decode cX5_goOn 21 = .ok (.imul, 1) := by decide +kernel
theorem dX5_goOn_22 : decode cX5_goOn 22 = .ok (.iload_n 3, 1) := by decide +kernel
theorem dX5_goOn_23 : decode cX5_goOn 23 = .ok (.iadd, 1) := by decide +kernel
theorem dX5_goOn_24 : decode cX5_goOn 24 = .ok (.baload, 1) := by decide +kernel
theorem dX5_goOn_25 : decode cX5_goOn 25 = .ok (.ifCond .ne 139, 3) := by decide +kernel
theorem dX5_goOn_28 : decode cX5_goOn 28 = .ok (.aload_n 0, 1) := by decide +kernel
theorem dX5_goOn_29 : decode cX5_goOn 29 = .ok (.getfield 16, 3) := by decide +kernel
theorem dX5_goOn_32 : decode cX5_goOn 32 = .ok (.iload_n 3, 1) := by decide +kernel
theorem dX5_goOn_33 : decode cX5_goOn 33 = .ok (.iaload, 1) := by decide +kernel
theorem dX5_goOn_34 : decode cX5_goOn 34 = .ok (.aload_n 0, 1) := by decide +kernel
theorem dX5_goOn_35 : decode cX5_goOn 35 = .ok (.iload_n 1, 1) := by decide +kernel
theorem dX5_goOn_36 : decode cX5_goOn 36 = .ok (.invokevirtual 119, 3) := by decide +kernel
theorem dX5_goOn_39 : decode cX5_goOn 39 = .ok (.if_icmp .ne 53, 3) := by decide +kernel
theorem dX5_goOn_42 : decode cX5_goOn 42 = .ok (.aload_n 0, 1) := by decide +kernel
theorem dX5_goOn_43 : decode cX5_goOn 43 = .ok (.iconst 2, 1) := by decide +kernel
theorem dX5_goOn_44 : decode cX5_goOn 44 = .ok (.iload_n 3, 1) := by decide +kernel
theorem dX5_goOn_45 : decode cX5_goOn 45 = .ok (.imul, 1) := by decide +kernel
theorem dX5_goOn_46 : decode cX5_goOn 46 = .ok (.iconst 1, 1) := by decide +kernel
theorem dX5_goOn_47 : decode cX5_goOn 47 = .ok (.iadd, 1) := by decide +kernel
theorem dX5_goOn_48 : decode cX5_goOn 48 = .ok (.aload_n 0, 1) := by decide +kernel
theorem dX5_goOn_49 : decode cX5_goOn 49 = .ok (.getfield 66, 3) := by decide +kernel
theorem dX5_goOn_52 : decode cX5_goOn 52 = .ok (.iload_n 1, 1) := by decide +kernel
theorem dX5_goOn_53 : decode cX5_goOn 53 = .ok (.iaload, 1) := by decide +kernel
theorem dX5_goOn_54 : decode cX5_goOn 54 = .ok (.iconst 4, 1) := by decide +kernel
theorem dX5_goOn_55 : decode cX5_goOn 55 = .ok (.aload_n 0, 1) := by decide +kernel
theorem dX5_goOn_56 : decode cX5_goOn 56 = .ok (.getfield 22, 3) := by decide +kernel
theorem dX5_goOn_59 : decode cX5_goOn 59 = .ok (.iload_n 3, 1) := by decide +kernel
theorem dX5_goOn_60 : decode cX5_goOn 60 = .ok (.iaload, 1) := by decide +kernel
theorem dX5_goOn_61 : decode cX5_goOn 61 = .ok (.imul, 1) := by decide +kernel
theorem dX5_goOn_62 : decode cX5_goOn 62 = .ok (.iadd, 1) := by decide +kernel
theorem dX5_goOn_63 : decode cX5_goOn 63 = .ok (.aload_n 0, 1) := by decide +kernel
theorem dX5_goOn_64 : decode cX5_goOn 64 = .ok (.getfield 69, 3) := by decide +kernel
theorem dX5_goOn_67 : decode cX5_goOn 67 = .ok (.iload_n 1, 1) := by decide +kernel
theorem dX5_goOn_68 : decode cX5_goOn 68 = .ok (.iaload, 1) := by decide +kernel
theorem dX5_goOn_69 : decode cX5_goOn 69 = .ok (.aload_n 0, 1) := by decide +kernel
theorem dX5_goOn_70 : decode cX5_goOn 70 = .ok (.getfield 28, 3) := by decide +kernel
theorem dX5_goOn_73 : decode cX5_goOn 73 = .ok (.iload_n 3, 1) := by decide +kernel
theorem dX5_goOn_74 : decode cX5_goOn 74 = .ok (.iaload, 1) := by decide +kernel
theorem dX5_goOn_75 : decode cX5_goOn 75 = .ok (.iadd, 1) := by decide +kernel
theorem dX5_goOn_76 : decode cX5_goOn 76 = .ok (.invokevirtual 113, 3) := by decide +kernel
theorem dX5_goOn_79 : decode cX5_goOn 79 = .ok (.ifCond .ne 7, 3) := by decide +kernel
theorem dX5_goOn_82 : decode cX5_goOn 82 = .ok (.iload_n 2, 1) := by decide +kernel
theorem dX5_goOn_83 : decode cX5_goOn 83 = .ok (.ifCond .eq 7, 3) := by decide +kernel
theorem dX5_goOn_86 : decode cX5_goOn 86 = .ok (.iconst 1, 1) := by decide +kernel
theorem dX5_goOn_87 : decode cX5_goOn 87 = .ok (.goto 4, 3) := by decide +kernel
theorem dX5_goOn_90 : decode cX5_goOn 90 = .ok (.iconst 0, 1) := by decide +kernel
theorem dX5_goOn_91 : decode cX5_goOn 91 = .ok (.istore_n 2, 1) := by decide +kernel
theorem dX5_goOn_92 : decode cX5_goOn 92 = .ok (.aload_n 0, 1) := by decide +kernel
theorem dX5_goOn_93 : decode cX5_goOn 93 = .ok (.getfield 19, 3) := by decide +kernel
theorem dX5_goOn_96 : decode cX5_goOn 96 = .ok (.iload_n 3, 1) := by decide +kernel
theorem dX5_goOn_97 : decode cX5_goOn 97 = .ok (.iaload, 1) := by decide +kernel
theorem dX5_goOn_98 : decode cX5_goOn 98 = .ok (.aload_n 0, 1) := by decide +kernel
theorem dX5_goOn_99 : decode cX5_goOn 99 = .ok (.iload_n 1, 1) := by decide +kernel
theorem dX5_goOn_100 : decode cX5_goOn 100 = .ok (.invokevirtual 119, 3) := by decide +kernel
theorem dX5_goOn_103 : decode cX5_goOn 103 = .ok (.if_icmp .ne 61, 3) := by decide +kernel
theorem dX5_goOn_106 : decode cX5_goOn 106 = .ok (.aload_n 0, 1) := by decide +kernel
theorem dX5_goOn_107 : decode cX5_goOn 107 = .ok (.getfield 25, 3) := by decide +kernel
theorem dX5_goOn_110 : decode cX5_goOn 110 = .ok (.iload_n 3, 1) := by decide +kernel
theorem dX5_goOn_111 : decode cX5_goOn 111 = .ok (.iaload, 1) := by decide +kernel
theorem dX5_goOn_112 : decode cX5_goOn 112 = .ok (.iconst 1, 1) := by decide +kernel
theorem dX5_goOn_113 : decode cX5_goOn 113 = .ok (.if_icmp .eq 51, 3) := by decide +kernel
theorem dX5_goOn_116 : decode cX5_goOn 116 = .ok (.aload_n 0, 1) := by decide +kernel
theorem dX5_goOn_117 : decode cX5_goOn 117 = .ok (.iconst 2, 1) := by decide +kernel
theorem dX5_goOn_118 : decode cX5_goOn 118 = .ok (.iload_n 3, 1) := by decide +kernel
theorem dX5_goOn_119 : decode cX5_goOn 119 = .ok (.imul, 1) := by decide +kernel
theorem dX5_goOn_120 : decode cX5_goOn 120 = .ok (.aload_n 0, 1) := by decide +kernel
theorem dX5_goOn_121 : decode cX5_goOn 121 = .ok (.getfield 66, 3) := by decide +kernel
theorem dX5_goOn_124 : decode cX5_goOn 124 = .ok (.iload_n 1, 1) := by decide +kernel
theorem dX5_goOn_125 : decode cX5_goOn 125 = .ok (.iaload, 1) := by decide +kernel
theorem dX5_goOn_126 : decode cX5_goOn 126 = .ok (.iconst 4, 1) := by decide +kernel
theorem dX5_goOn_127 : decode cX5_goOn 127 = .ok (.aload_n 0, 1) := by decide +kernel
theorem dX5_goOn_128 : decode cX5_goOn 128 = .ok (.getfield 22, 3) := by decide +kernel
theorem dX5_goOn_131 : decode cX5_goOn 131 = .ok (.iload_n 3, 1) := by decide +kernel
theorem dX5_goOn_132 : decode cX5_goOn 132 = .ok (.iaload, 1) := by decide +kernel
theorem dX5_goOn_133 : decode cX5_goOn 133 = .ok (.imul, 1) := by decide +kernel
theorem dX5_goOn_134 : decode cX5_goOn 134 = .ok (.iadd, 1) := by decide +kernel
theorem dX5_goOn_135 : decode cX5_goOn 135 = .ok (.aload_n 0, 1) := by decide +kernel
theorem dX5_goOn_136 : decode cX5_goOn 136 = .ok (.getfield 69, 3) := by decide +kernel
theorem dX5_goOn_139 : decode cX5_goOn 139 = .ok (.iload_n 1, 1) := by decide +kernel
theorem dX5_goOn_140 : decode cX5_goOn 140 = .ok (.iaload, 1) := by decide +kernel
theorem dX5_goOn_141 : decode cX5_goOn 141 = .ok (.aload_n 0, 1) := by decide +kernel
theorem dX5_goOn_142 : decode cX5_goOn 142 = .ok (.getfield 28, 3) := by decide +kernel
theorem dX5_goOn_145 : decode cX5_goOn 145 = .ok (.iload_n 3, 1) := by decide +kernel
theorem dX5_goOn_146 : decode cX5_goOn 146 = .ok (.iaload, 1) := by decide +kernel
theorem dX5_goOn_147 : decode cX5_goOn 147 = .ok (.iadd, 1) := by decide +kernel
theorem dX5_goOn_148 : decode cX5_goOn 148 = .ok (.invokevirtual 113, 3) := by decide +kernel
theorem dX5_goOn_151 : decode cX5_goOn 151 = .ok (.ifCond .ne 7, 3) := by decide +kernel
theorem dX5_goOn_154 : decode cX5_goOn 154 = .ok (.iload_n 2, 1) := by decide +kernel
theorem dX5_goOn_155 : decode cX5_goOn 155 = .ok (.ifCond .eq 7, 3) := by decide +kernel
theorem dX5_goOn_158 : decode cX5_goOn 158 = .ok (.iconst 1, 1) := by decide +kernel
theorem dX5_goOn_159 : decode cX5_goOn 159 = .ok (.goto 4, 3) := by decide +kernel
theorem dX5_goOn_162 : decode cX5_goOn 162 = .ok (.iconst 0, 1) := by decide +kernel
theorem dX5_goOn_163 : decode cX5_goOn 163 = .ok (.istore_n 2, 1) := by decide +kernel
theorem dX5_goOn_164 : decode cX5_goOn 164 = .ok (.iinc 3 1, 3) := by decide +kernel
theorem dX5_goOn_167 : decode cX5_goOn 167 = .ok (.goto (-163), 3) := by decide +kernel
theorem dX5_goOn_170 : decode cX5_goOn 170 = .ok (.iload_n 2, 1) := by decide +kernel
theorem dX5_goOn_171 : decode cX5_goOn 171 = .ok (.ireturn, 1) := by decide +kernel
theorem dX5_offer_0 : decode cX5_offer 0 = .ok (.iload_n 2, 1) := by decide +kernel
theorem dX5_offer_1 : decode cX5_offer 1 = .ok (.aload_n 0, 1) := by decide +kernel
theorem dX5_offer_2 : decode cX5_offer 2 = .ok (.getfield 60, 3) := by decide +kernel
theorem dX5_offer_5 : decode cX5_offer 5 = .ok (.iload_n 1, 1) := by decide +kernel
theorem dX5_offer_6 : decode cX5_offer 6 = .ok (.iaload, 1) := by decide +kernel
theorem dX5_offer_7 : decode cX5_offer 7 = .ok (.if_icmp .lt 23, 3) := by decide +kernel
theorem dX5_offer_10 : decode cX5_offer 10 = .ok (.iload_n 2, 1) := by decide +kernel
theorem dX5_offer_11 : decode cX5_offer 11 = .ok (.aload_n 0, 1) := by decide +kernel
theorem dX5_offer_12 : decode cX5_offer 12 = .ok (.getfield 60, 3) := by decide +kernel
theorem dX5_offer_15 : decode cX5_offer 15 = .ok (.iload_n 1, 1) := by decide +kernel
theorem dX5_offer_16 : decode cX5_offer 16 = .ok (.iaload, 1) := by decide +kernel
theorem dX5_offer_17 : decode cX5_offer 17 = .ok (.if_icmp .ne 27, 3) := by decide +kernel
theorem dX5_offer_20 : decode cX5_offer 20 = .ok (.iload_n 3, 1) := by decide +kernel
theorem dX5_offer_21 : decode cX5_offer 21 = .ok (.aload_n 0, 1) := by decide +kernel
theorem dX5_offer_22 : decode cX5_offer 22 = .ok (.getfield 63, 3) := by decide +kernel
theorem dX5_offer_25 : decode cX5_offer 25 = .ok (.iload_n 1, 1) := by decide +kernel
theorem dX5_offer_26 : decode cX5_offer 26 = .ok (.iaload, 1) := by decide +kernel
theorem dX5_offer_27 : decode cX5_offer 27 = .ok (.if_icmp .ge 17, 3) := by decide +kernel
theorem dX5_offer_30 : decode cX5_offer 30 = .ok (.aload_n 0, 1) := by decide +kernel
theorem dX5_offer_31 : decode cX5_offer 31 = .ok (.getfield 60, 3) := by decide +kernel
theorem dX5_offer_34 : decode cX5_offer 34 = .ok (.iload_n 1, 1) := by decide +kernel
theorem dX5_offer_35 : decode cX5_offer 35 = .ok (.iload_n 2, 1) := by decide +kernel
theorem dX5_offer_36 : decode cX5_offer 36 = .ok (.iastore, 1) := by decide +kernel
theorem dX5_offer_37 : decode cX5_offer 37 = .ok (.aload_n 0, 1) := by decide +kernel
theorem dX5_offer_38 : decode cX5_offer 38 = .ok (.getfield 63, 3) := by decide +kernel
theorem dX5_offer_41 : decode cX5_offer 41 = .ok (.iload_n 1, 1) := by decide +kernel
theorem dX5_offer_42 : decode cX5_offer 42 = .ok (.iload_n 3, 1) := by decide +kernel
theorem dX5_offer_43 : decode cX5_offer 43 = .ok (.iastore, 1) := by decide +kernel
theorem dX5_offer_44 : decode cX5_offer 44 = .ok (.return_, 1) := by decide +kernel
theorem dX5_reach_0 : decode cX5_reach 0 = .ok (.sipush 150, 3) := by decide +kernel
theorem dX5_reach_3 : decode cX5_reach 3 = .ok (.iload_n 1, 1) := by decide +kernel
theorem dX5_reach_4 : decode cX5_reach 4 = .ok (.imul, 1) := by decide +kernel
theorem dX5_reach_5 : decode cX5_reach 5 = .ok (.iload_n 2, 1) := by decide +kernel
theorem dX5_reach_6 : decode cX5_reach 6 = .ok (.iadd, 1) := by decide +kernel
theorem dX5_reach_7 : decode cX5_reach 7 = .ok (.istore_n 3, 1) := by decide +kernel
theorem dX5_reach_8 : decode cX5_reach 8 = .ok (.iload_n 2, 1) := by decide +kernel
theorem dX5_reach_9 : decode cX5_reach 9 = .ok (.iconst 5, 1) := by decide +kernel
theorem dX5_reach_10 : decode cX5_reach 10 = .ok (.idiv, 1) := by decide +kernel
theorem dX5_reach_11 : decode cX5_reach 11 = .ok (.istore 4, 2) := by decide +kernel
theorem dX5_reach_13 : decode cX5_reach 13 = .ok (.iload_n 2, 1) := by decide +kernel
theorem dX5_reach_14 : decode cX5_reach 14 = .ok (.iconst 5, 1) := by decide +kernel
theorem dX5_reach_15 : decode cX5_reach 15 = .ok (.irem, 1) := by decide +kernel
theorem dX5_reach_16 : decode cX5_reach 16 = .ok (.istore 5, 2) := by decide +kernel
theorem dX5_reach_18 : decode cX5_reach 18 = .ok (.aload_n 0, 1) := by decide +kernel
theorem dX5_reach_19 : decode cX5_reach 19 = .ok (.getfield 60, 3) := by decide +kernel
theorem dX5_reach_22 : decode cX5_reach 22 = .ok (.iload_n 3, 1) := by decide +kernel
theorem dX5_reach_23 : decode cX5_reach 23 = .ok (.iload_n 1, 1) := by decide +kernel
theorem dX5_reach_24 : decode cX5_reach 24 = .ok (.iload_n 2, 1) := by decide +kernel
theorem dX5_reach_25 : decode cX5_reach 25 = .ok (.if_icmp .ne 7, 3) := by decide +kernel
theorem dX5_reach_28 : decode cX5_reach 28 = .ok (.iconst 0, 1) := by decide +kernel
theorem dX5_reach_29 : decode cX5_reach 29 = .ok (.goto 5, 3) := by decide +kernel
theorem dX5_reach_32 : decode cX5_reach 32 = .ok (.ldc 108, 2) := by decide +kernel
theorem dX5_reach_34 : decode cX5_reach 34 = .ok (.iastore, 1) := by decide +kernel
theorem dX5_reach_35 : decode cX5_reach 35 = .ok (.aload_n 0, 1) := by decide +kernel
theorem dX5_reach_36 : decode cX5_reach 36 = .ok (.getfield 63, 3) := by decide +kernel
theorem dX5_reach_39 : decode cX5_reach 39 = .ok (.iload_n 3, 1) := by decide +kernel
theorem dX5_reach_40 : decode cX5_reach 40 = .ok (.iconst 0, 1) := by decide +kernel
theorem dX5_reach_41 : decode cX5_reach 41 = .ok (.iastore, 1) := by decide +kernel
theorem dX5_reach_42 : decode cX5_reach 42 = .ok (.iload_n 1, 1) := by decide +kernel
theorem dX5_reach_43 : decode cX5_reach 43 = .ok (.iload_n 2, 1) := by decide +kernel
theorem dX5_reach_44 : decode cX5_reach 44 = .ok (.if_icmp .ne 4, 3) := by decide +kernel
theorem dX5_reach_47 : decode cX5_reach 47 = .ok (.return_, 1) := by decide +kernel
theorem dX5_reach_48 : decode cX5_reach 48 = .ok (.iload 5, 2) := by decide +kernel
theorem dX5_reach_50 : decode cX5_reach 50 = .ok (.iload_n 1, 1) := by decide +kernel
theorem dX5_reach_51 : decode cX5_reach 51 = .ok (.iconst 5, 1) := by decide +kernel
theorem dX5_reach_52 : decode cX5_reach 52 = .ok (.irem, 1) := by decide +kernel
theorem dX5_reach_53 : decode cX5_reach 53 = .ok (.isub, 1) := by decide +kernel
theorem dX5_reach_54 : decode cX5_reach 54 = .ok (.istore 6, 2) := by decide +kernel
theorem dX5_reach_56 : decode cX5_reach 56 = .ok (.iload_n 1, 1) := by decide +kernel
theorem dX5_reach_57 : decode cX5_reach 57 = .ok (.iconst 5, 1) := by decide +kernel
theorem dX5_reach_58 : decode cX5_reach 58 = .ok (.idiv, 1) := by decide +kernel
theorem dX5_reach_59 : decode cX5_reach 59 = .ok (.iload 4, 2) := by decide +kernel
theorem dX5_reach_61 : decode cX5_reach 61 = .ok (.if_icmp .ne 57, 3) := by decide +kernel
theorem dX5_reach_64 : decode cX5_reach 64 = .ok (.iload 6, 2) := by decide +kernel
theorem dX5_reach_66 : decode cX5_reach 66 = .ok (.ifCond .gt 14, 3) := by decide +kernel
theorem dX5_reach_69 : decode cX5_reach 69 = .ok (.aload_n 0, 1) := by decide +kernel
theorem dX5_reach_70 : decode cX5_reach 70 = .ok (.getfield 25, 3) := by decide +kernel
theorem dX5_reach_73 : decode cX5_reach 73 = .ok (.iload 4, 2) := by decide +kernel
theorem dX5_reach_75 : decode cX5_reach 75 = .ok (.iaload, 1) := by decide +kernel
theorem dX5_reach_76 : decode cX5_reach 76 = .ok (.iconst 1, 1) := by decide +kernel
theorem dX5_reach_77 : decode cX5_reach 77 = .ok (.if_icmp .eq 41, 3) := by decide +kernel
theorem dX5_reach_80 : decode cX5_reach 80 = .ok (.iload 6, 2) := by decide +kernel
theorem dX5_reach_82 : decode cX5_reach 82 = .ok (.ifCond .ge 9, 3) := by decide +kernel
theorem dX5_reach_85 : decode cX5_reach 85 = .ok (.iload 6, 2) := by decide +kernel
theorem dX5_reach_87 : decode cX5_reach 87 = .ok (.ineg, 1) := by decide +kernel
theorem dX5_reach_88 : decode cX5_reach 88 = .ok (.goto 5, 3) := by decide +kernel
theorem dX5_reach_91 : decode cX5_reach 91 = .ok (.iload 6, 2) := by decide +kernel
theorem dX5_reach_93 : decode cX5_reach 93 = .ok (.aload_n 0, 1) := by decide +kernel
theorem dX5_reach_94 : decode cX5_reach 94 = .ok (.getfield 22, 3) := by decide +kernel
theorem dX5_reach_97 : decode cX5_reach 97 = .ok (.iload 4, 2) := by decide +kernel
theorem dX5_reach_99 : decode cX5_reach 99 = .ok (.iaload, 1) := by decide +kernel
theorem dX5_reach_100 : decode cX5_reach 100 = .ok (.imul, 1) := by decide +kernel
theorem dX5_reach_101 : decode cX5_reach 101 = .ok (.istore 7, 2) := by decide +kernel
theorem dX5_reach_103 : decode cX5_reach 103 = .ok (.aload_n 0, 1) := by decide +kernel
theorem dX5_reach_104 : decode cX5_reach 104 = .ok (.iload_n 3, 1) := by decide +kernel
theorem dX5_reach_105 : decode cX5_reach 105 = .ok (.iload 7, 2) := by decide +kernel
theorem dX5_reach_107 : decode cX5_reach 107 = .ok (.aload_n 0, 1) := by decide +kernel
theorem dX5_reach_108 : decode cX5_reach 108 = .ok (.iload 4, 2) := by decide +kernel
theorem dX5_reach_110 : decode cX5_reach 110 = .ok (.iload 7, 2) := by decide +kernel
theorem dX5_reach_112 : decode cX5_reach 112 = .ok (.invokevirtual 109, 3) := by decide +kernel
theorem dX5_reach_115 : decode cX5_reach 115 = .ok (.invokevirtual 123, 3) := by decide +kernel
theorem dX5_reach_118 : decode cX5_reach 118 = .ok (.iconst 0, 1) := by decide +kernel
theorem dX5_reach_119 : decode cX5_reach 119 = .ok (.istore 7, 2) := by decide +kernel
theorem dX5_reach_121 : decode cX5_reach 121 = .ok (.iload 7, 2) := by decide +kernel
theorem dX5_reach_123 : decode cX5_reach 123 = .ok (.iconst 2, 1) := by decide +kernel
theorem dX5_reach_124 : decode cX5_reach 124 = .ok (.aload_n 0, 1) := by decide +kernel
theorem dX5_reach_125 : decode cX5_reach 125 = .ok (.getfield 94, 3) := by decide +kernel
theorem dX5_reach_128 : decode cX5_reach 128 = .ok (.imul, 1) := by decide +kernel
theorem dX5_reach_129 : decode cX5_reach 129 = .ok (.if_icmp .ge 164, 3) := by decide +kernel
theorem dX5_reach_132 : decode cX5_reach 132 = .ok (.aload_n 0, 1) := by decide +kernel
theorem dX5_reach_133 : decode cX5_reach 133 = .ok (.getfield 66, 3) := by decide +kernel
theorem dX5_reach_136 : decode cX5_reach 136 = .ok (.iload 7, 2) := by decide +kernel
theorem dX5_reach_138 : decode cX5_reach 138 = .ok (.iaload, 1) := by decide +kernel
theorem dX5_reach_139 : decode cX5_reach 139 = .ok (.ldc 108, 2) := by decide +kernel
theorem dX5_reach_141 : decode cX5_reach 141 = .ok (.if_icmp .ge 146, 3) := by decide +kernel
theorem dX5_reach_144 : decode cX5_reach 144 = .ok (.aload_n 0, 1) := by decide +kernel
theorem dX5_reach_145 : decode cX5_reach 145 = .ok (.getfield 31, 3) := by decide +kernel
theorem dX5_reach_148 : decode cX5_reach 148 = .ok (.bipush 30, 2) := by decide +kernel
theorem dX5_reach_150 : decode cX5_reach 150 = .ok (.iload 7, 2) := by decide +kernel
theorem dX5_reach_152 : decode cX5_reach 152 = .ok (.iconst 2, 1) := by decide +kernel
theorem dX5_reach_153 : decode cX5_reach 153 = .ok (.idiv, 1) := by decide +kernel
theorem dX5_reach_154 : decode cX5_reach 154 = .ok (.imul, 1) := by decide +kernel
theorem dX5_reach_155 : decode cX5_reach 155 = .ok (.iload 4, 2) := by decide +kernel
theorem dX5_reach_157 : decode cX5_reach 157 = .ok (.iadd, 1) := by decide +kernel
theorem dX5_reach_158 : decode cX5_reach 158 = .ok (.baload, 1) := by decide +kernel
theorem dX5_reach_159 : decode cX5_reach 159 = .ok (.ifCond .ne 128, 3) := by decide +kernel
theorem dX5_reach_162 : decode cX5_reach 162 = .ok (.aload_n 0, 1) := by decide +kernel
theorem dX5_reach_163 : decode cX5_reach 163 = .ok (.getfield 16, 3) := by decide +kernel
theorem dX5_reach_166 : decode cX5_reach 166 = .ok (.iload 4, 2) := by decide +kernel
theorem dX5_reach_168 : decode cX5_reach 168 = .ok (.iaload, 1) := by decide +kernel
theorem dX5_reach_169 : decode cX5_reach 169 = .ok (.aload_n 0, 1) := by decide +kernel
theorem dX5_reach_170 : decode cX5_reach 170 = .ok (.iload 7, 2) := by decide +kernel
theorem dX5_reach_172 : decode cX5_reach 172 = .ok (.invokevirtual 119, 3) := by decide +kernel
theorem dX5_reach_175 : decode cX5_reach 175 = .ok (.if_icmp .ne 42, 3) := by decide +kernel
theorem dX5_reach_178 : decode cX5_reach 178 = .ok (.aload_n 0, 1) := by decide +kernel
theorem dX5_reach_179 : decode cX5_reach 179 = .ok (.iload_n 3, 1) := by decide +kernel
theorem dX5_reach_180 : decode cX5_reach 180 = .ok (.aload_n 0, 1) := by decide +kernel
theorem dX5_reach_181 : decode cX5_reach 181 = .ok (.getfield 66, 3) := by decide +kernel
theorem dX5_reach_184 : decode cX5_reach 184 = .ok (.iload 7, 2) := by decide +kernel
theorem dX5_reach_186 : decode cX5_reach 186 = .ok (.iaload, 1) := by decide +kernel
theorem dX5_reach_187 : decode cX5_reach 187 = .ok (.iload 5, 2) := by decide +kernel
theorem dX5_reach_189 : decode cX5_reach 189 = .ok (.aload_n 0, 1) := by decide +kernel
theorem dX5_reach_190 : decode cX5_reach 190 = .ok (.getfield 22, 3) := by decide +kernel
theorem dX5_reach_193 : decode cX5_reach 193 = .ok (.iload 4, 2) := by decide +kernel
theorem dX5_reach_195 : decode cX5_reach 195 = .ok (.iaload, 1) := by decide +kernel
theorem dX5_reach_196 : decode cX5_reach 196 = .ok (.imul, 1) := by decide +kernel
theorem dX5_reach_197 : decode cX5_reach 197 = .ok (.iadd, 1) := by decide +kernel
theorem dX5_reach_198 : decode cX5_reach 198 = .ok (.aload_n 0, 1) := by decide +kernel
theorem dX5_reach_199 : decode cX5_reach 199 = .ok (.getfield 69, 3) := by decide +kernel
theorem dX5_reach_202 : decode cX5_reach 202 = .ok (.iload 7, 2) := by decide +kernel
theorem dX5_reach_204 : decode cX5_reach 204 = .ok (.iaload, 1) := by decide +kernel
theorem dX5_reach_205 : decode cX5_reach 205 = .ok (.aload_n 0, 1) := by decide +kernel
theorem dX5_reach_206 : decode cX5_reach 206 = .ok (.iload 4, 2) := by decide +kernel
theorem dX5_reach_208 : decode cX5_reach 208 = .ok (.iload 5, 2) := by decide +kernel
theorem dX5_reach_210 : decode cX5_reach 210 = .ok (.invokevirtual 109, 3) := by decide +kernel
theorem dX5_reach_213 : decode cX5_reach 213 = .ok (.iadd, 1) := by decide +kernel
theorem dX5_reach_214 : decode cX5_reach 214 = .ok (.invokevirtual 123, 3) := by decide +kernel
theorem dX5_reach_217 : decode cX5_reach 217 = .ok (.aload_n 0, 1) := by decide +kernel
theorem dX5_reach_218 : decode cX5_reach 218 = .ok (.getfield 19, 3) := by decide +kernel
theorem dX5_reach_221 : decode cX5_reach 221 = .ok (.iload 4, 2) := by decide +kernel
theorem dX5_reach_223 : decode cX5_reach 223 = .ok (.iaload, 1) := by decide +kernel
theorem dX5_reach_224 : decode cX5_reach 224 = .ok (.aload_n 0, 1) := by decide +kernel
theorem dX5_reach_225 : decode cX5_reach 225 = .ok (.iload 7, 2) := by decide +kernel
theorem dX5_reach_227 : decode cX5_reach 227 = .ok (.invokevirtual 119, 3) := by decide +kernel
theorem dX5_reach_230 : decode cX5_reach 230 = .ok (.if_icmp .ne 57, 3) := by decide +kernel
theorem dX5_reach_233 : decode cX5_reach 233 = .ok (.aload_n 0, 1) := by decide +kernel
theorem dX5_reach_234 : decode cX5_reach 234 = .ok (.getfield 25, 3) := by decide +kernel
theorem dX5_reach_237 : decode cX5_reach 237 = .ok (.iload 4, 2) := by decide +kernel
theorem dX5_reach_239 : decode cX5_reach 239 = .ok (.iaload, 1) := by decide +kernel
theorem dX5_reach_240 : decode cX5_reach 240 = .ok (.iconst 1, 1) := by decide +kernel
theorem dX5_reach_241 : decode cX5_reach 241 = .ok (.if_icmp .eq 46, 3) := by decide +kernel
theorem dX5_reach_244 : decode cX5_reach 244 = .ok (.aload_n 0, 1) := by decide +kernel
theorem dX5_reach_245 : decode cX5_reach 245 = .ok (.iload_n 3, 1) := by decide +kernel
theorem dX5_reach_246 : decode cX5_reach 246 = .ok (.aload_n 0, 1) := by decide +kernel
theorem dX5_reach_247 : decode cX5_reach 247 = .ok (.getfield 66, 3) := by decide +kernel
theorem dX5_reach_250 : decode cX5_reach 250 = .ok (.iload 7, 2) := by decide +kernel
theorem dX5_reach_252 : decode cX5_reach 252 = .ok (.iaload, 1) := by decide +kernel
theorem dX5_reach_253 : decode cX5_reach 253 = .ok (.iconst 4, 1) := by decide +kernel
theorem dX5_reach_254 : decode cX5_reach 254 = .ok (.iload 5, 2) := by decide +kernel
theorem dX5_reach_256 : decode cX5_reach 256 = .ok (.isub, 1) := by decide +kernel
theorem dX5_reach_257 : decode cX5_reach 257 = .ok (.aload_n 0, 1) := by decide +kernel
theorem dX5_reach_258 : decode cX5_reach 258 = .ok (.getfield 22, 3) := by decide +kernel
theorem dX5_reach_261 : decode cX5_reach 261 = .ok (.iload 4, 2) := by decide +kernel
theorem dX5_reach_263 : decode cX5_reach 263 = .ok (.iaload, 1) := by decide +kernel
theorem dX5_reach_264 : decode cX5_reach 264 = .ok (.imul, 1) := by decide +kernel
theorem dX5_reach_265 : decode cX5_reach 265 = .ok (.iadd, 1) := by decide +kernel
theorem dX5_reach_266 : decode cX5_reach 266 = .ok (.aload_n 0, 1) := by decide +kernel
theorem dX5_reach_267 : decode cX5_reach 267 = .ok (.getfield 69, 3) := by decide +kernel
theorem dX5_reach_270 : decode cX5_reach 270 = .ok (.iload 7, 2) := by decide +kernel
theorem dX5_reach_272 : decode cX5_reach 272 = .ok (.iaload, 1) := by decide +kernel
theorem dX5_reach_273 : decode cX5_reach 273 = .ok (.aload_n 0, 1) := by decide +kernel
theorem dX5_reach_274 : decode cX5_reach 274 = .ok (.iload 4, 2) := by decide +kernel
theorem dX5_reach_276 : decode cX5_reach 276 = .ok (.iconst 4, 1) := by decide +kernel
theorem dX5_reach_277 : decode cX5_reach 277 = .ok (.iload 5, 2) := by decide +kernel
theorem dX5_reach_279 : decode cX5_reach 279 = .ok (.isub, 1) := by decide +kernel
theorem dX5_reach_280 : decode cX5_reach 280 = .ok (.invokevirtual 109, 3) := by decide +kernel
theorem dX5_reach_283 : decode cX5_reach 283 = .ok (.iadd, 1) := by decide +kernel
theorem dX5_reach_284 : decode cX5_reach 284 = .ok (.invokevirtual 123, 3) := by decide +kernel
theorem dX5_reach_287 : decode cX5_reach 287 = .ok (.iinc 7 1, 3) := by decide +kernel
theorem dX5_reach_290 : decode cX5_reach 290 = .ok (.goto (-169), 3) := by decide +kernel
theorem dX5_reach_293 : decode cX5_reach 293 = .ok (.return_, 1) := by decide +kernel
theorem dX5_findWays_0 : decode cX5_findWays 0 = .ok (.aload_n 0, 1) := by decide +kernel
theorem dX5_findWays_1 : decode cX5_findWays 1 = .ok (.getfield 101, 3) := by decide +kernel
theorem dX5_findWays_4 : decode cX5_findWays 4 = .ok (.ifCond .eq 4, 3) := by decide +kernel
theorem dX5_findWays_7 : decode cX5_findWays 7 = .ok (.return_, 1) := by decide +kernel
theorem dX5_findWays_8 : decode cX5_findWays 8 = .ok (.iconst 0, 1) := by decide +kernel
theorem dX5_findWays_9 : decode cX5_findWays 9 = .ok (.istore_n 1, 1) := by decide +kernel
theorem dX5_findWays_10 : decode cX5_findWays 10 = .ok (.iload_n 1, 1) := by decide +kernel
theorem dX5_findWays_11 : decode cX5_findWays 11 = .ok (.iconst 5, 1) := by decide +kernel
theorem dX5_findWays_12 : decode cX5_findWays 12 = .ok (.aload_n 0, 1) := by decide +kernel
theorem dX5_findWays_13 : decode cX5_findWays 13 = .ok (.getfield 94, 3) := by decide +kernel
theorem dX5_findWays_16 : decode cX5_findWays 16 = .ok (.imul, 1) := by decide +kernel
theorem dX5_findWays_17 : decode cX5_findWays 17 = .ok (.if_icmp .ge 38, 3) := by decide +kernel
theorem dX5_findWays_20 : decode cX5_findWays 20 = .ok (.aload_n 0, 1) := by decide +kernel
theorem dX5_findWays_21 : decode cX5_findWays 21 = .ok (.iload_n 1, 1) := by decide +kernel
theorem dX5_findWays_22 : decode cX5_findWays 22 = .ok (.invokevirtual 127, 3) := by decide +kernel
theorem dX5_findWays_25 : decode cX5_findWays 25 = .ok (.iconst 0, 1) := by decide +kernel
theorem dX5_findWays_26 : decode cX5_findWays 26 = .ok (.istore_n 2, 1) := by decide +kernel
theorem dX5_findWays_27 : decode cX5_findWays 27 = .ok (.iload_n 2, 1) := by decide +kernel
theorem dX5_findWays_28 : decode cX5_findWays 28 = .ok (.iconst 5, 1) := by decide +kernel
theorem dX5_findWays_29 : decode cX5_findWays 29 = .ok (.aload_n 0, 1) := by decide +kernel
theorem dX5_findWays_30 : decode cX5_findWays 30 = .ok (.getfield 94, 3) := by decide +kernel
theorem dX5_findWays_33 : decode cX5_findWays 33 = .ok (.imul, 1) := by decide +kernel
theorem dX5_findWays_34 : decode cX5_findWays 34 = .ok (.if_icmp .ge 15, 3) := by decide +kernel
theorem dX5_findWays_37 : decode cX5_findWays 37 = .ok (.aload_n 0, 1) := by decide +kernel
theorem dX5_findWays_38 : decode cX5_findWays 38 = .ok (.iload_n 1, 1) := by decide +kernel
theorem dX5_findWays_39 : decode cX5_findWays 39 = .ok (.iload_n 2, 1) := by decide +kernel
theorem dX5_findWays_40 : decode cX5_findWays 40 = .ok (.invokevirtual 131, 3) := by decide +kernel
theorem dX5_findWays_43 : decode cX5_findWays 43 = .ok (.iinc 2 1, 3) := by decide +kernel
theorem dX5_findWays_46 : decode cX5_findWays 46 = .ok (.goto (-19), 3) := by decide +kernel
theorem dX5_findWays_49 : decode cX5_findWays 49 = .ok (.iinc 1 1, 3) := by decide +kernel
theorem dX5_findWays_52 : decode cX5_findWays 52 = .ok (.goto (-42), 3) := by decide +kernel
theorem dX5_findWays_55 : decode cX5_findWays 55 = .ok (.aload_n 0, 1) := by decide +kernel
theorem dX5_findWays_56 : decode cX5_findWays 56 = .ok (.iconst 1, 1) := by decide +kernel
theorem dX5_findWays_57 : decode cX5_findWays 57 = .ok (.putfield 101, 3) := by decide +kernel
theorem dX5_findWays_60 : decode cX5_findWays 60 = .ok (.return_, 1) := by decide +kernel
theorem dX5_way_0 : decode cX5_way 0 = .ok (.aload_n 0, 1) := by decide +kernel
theorem dX5_way_1 : decode cX5_way 1 = .ok (.iload_n 1, 1) := by decide +kernel
theorem dX5_way_2 : decode cX5_way 2 = .ok (.invokevirtual 135, 3) := by decide +kernel
theorem dX5_way_5 : decode cX5_way 5 = .ok (.ifCond .eq 11, 3) := by decide +kernel
theorem dX5_way_8 : decode cX5_way 8 = .ok (.aload_n 0, 1) := by decide +kernel
theorem dX5_way_9 : decode cX5_way 9 = .ok (.iload_n 2, 1) := by decide +kernel
theorem dX5_way_10 : decode cX5_way 10 = .ok (.invokevirtual 135, 3) := by decide +kernel
theorem dX5_way_13 : decode cX5_way 13 = .ok (.ifCond .ne 5, 3) := by decide +kernel
theorem dX5_way_16 : decode cX5_way 16 = .ok (.iconst (-1), 1) := by decide +kernel
theorem dX5_way_17 : decode cX5_way 17 = .ok (.ireturn, 1) := by decide +kernel
theorem dX5_way_18 : decode cX5_way 18 = .ok (.aload_n 0, 1) := by decide +kernel
theorem dX5_way_19 : decode cX5_way 19 = .ok (.invokevirtual 138, 3) := by decide +kernel
theorem dX5_way_22 : decode cX5_way 22 = .ok (.aload_n 0, 1) := by decide +kernel
theorem dX5_way_23 : decode cX5_way 23 = .ok (.getfield 60, 3) := by decide +kernel
theorem dX5_way_26 : decode cX5_way 26 = .ok (.sipush 150, 3) := by decide +kernel
theorem dX5_way_29 : decode cX5_way 29 = .ok (.iload_n 1, 1) := by decide +kernel
theorem dX5_way_30 : decode cX5_way 30 = .ok (.imul, 1) := by decide +kernel
theorem dX5_way_31 : decode cX5_way 31 = .ok (.iload_n 2, 1) := by decide +kernel
theorem dX5_way_32 : decode cX5_way 32 = .ok (.iadd, 1) := by decide +kernel
theorem dX5_way_33 : decode cX5_way 33 = .ok (.iaload, 1) := by decide +kernel
theorem dX5_way_34 : decode cX5_way 34 = .ok (.istore_n 3, 1) := by decide +kernel
theorem dX5_way_35 : decode cX5_way 35 = .ok (.iload_n 3, 1) := by decide +kernel
theorem dX5_way_36 : decode cX5_way 36 = .ok (.ldc 108, 2) := by decide +kernel
theorem dX5_way_38 : decode cX5_way 38 = .ok (.if_icmp .ge 7, 3) := by decide +kernel
theorem dX5_way_41 : decode cX5_way 41 = .ok (.iload_n 3, 1) := by decide +kernel
theorem dX5_way_42 : decode cX5_way 42 = .ok (.goto 5, 3) := by decide +kernel
theorem dX5_way_45 : decode cX5_way 45 = .ok (.bipush (-4), 2) := by decide +kernel
theorem dX5_way_47 : decode cX5_way 47 = .ok (.ireturn, 1) := by decide +kernel
theorem dX5_fees_0 : decode cX5_fees 0 = .ok (.aload_n 0, 1) := by decide +kernel
theorem dX5_fees_1 : decode cX5_fees 1 = .ok (.iload_n 1, 1) := by decide +kernel
theorem dX5_fees_2 : decode cX5_fees 2 = .ok (.invokevirtual 135, 3) := by decide +kernel
theorem dX5_fees_5 : decode cX5_fees 5 = .ok (.ifCond .eq 11, 3) := by decide +kernel
theorem dX5_fees_8 : decode cX5_fees 8 = .ok (.aload_n 0, 1) := by decide +kernel
theorem dX5_fees_9 : decode cX5_fees 9 = .ok (.iload_n 2, 1) := by decide +kernel
theorem dX5_fees_10 : decode cX5_fees 10 = .ok (.invokevirtual 135, 3) := by decide +kernel
theorem dX5_fees_13 : decode cX5_fees 13 = .ok (.ifCond .ne 5, 3) := by decide +kernel
theorem dX5_fees_16 : decode cX5_fees 16 = .ok (.iconst (-1), 1) := by decide +kernel
theorem dX5_fees_17 : decode cX5_fees 17 = .ok (.ireturn, 1) := by decide +kernel
theorem dX5_fees_18 : decode cX5_fees 18 = .ok (.aload_n 0, 1) := by decide +kernel
theorem dX5_fees_19 : decode cX5_fees 19 = .ok (.invokevirtual 138, 3) := by decide +kernel
theorem dX5_fees_22 : decode cX5_fees 22 = .ok (.aload_n 0, 1) := by decide +kernel
theorem dX5_fees_23 : decode cX5_fees 23 = .ok (.getfield 60, 3) := by decide +kernel
theorem dX5_fees_26 : decode cX5_fees 26 = .ok (.sipush 150, 3) := by decide +kernel
theorem dX5_fees_29 : decode cX5_fees 29 = .ok (.iload_n 1, 1) := by decide +kernel
theorem dX5_fees_30 : decode cX5_fees 30 = .ok (.imul, 1) := by decide +kernel
theorem dX5_fees_31 : decode cX5_fees 31 = .ok (.iload_n 2, 1) := by decide +kernel
theorem dX5_fees_32 : decode cX5_fees 32 = .ok (.iadd, 1) := by decide +kernel
theorem dX5_fees_33 : decode cX5_fees 33 = .ok (.iaload, 1) := by decide +kernel
theorem dX5_fees_34 : decode cX5_fees 34 = .ok (.ldc 108, 2) := by decide +kernel
theorem dX5_fees_36 : decode cX5_fees 36 = .ok (.if_icmp .ge 18, 3) := by decide +kernel
theorem dX5_fees_39 : decode cX5_fees 39 = .ok (.aload_n 0, 1) := by decide +kernel
theorem dX5_fees_40 : decode cX5_fees 40 = .ok (.getfield 63, 3) := by decide +kernel
theorem dX5_fees_43 : decode cX5_fees 43 = .ok (.sipush 150, 3) := by decide +kernel
theorem dX5_fees_46 : decode cX5_fees 46 = .ok (.iload_n 1, 1) := by decide +kernel
theorem dX5_fees_47 : decode cX5_fees 47 = .ok (.imul, 1) := by decide +kernel
theorem dX5_fees_48 : decode cX5_fees 48 = .ok (.iload_n 2, 1) := by decide +kernel
theorem dX5_fees_49 : decode cX5_fees 49 = .ok (.iadd, 1) := by decide +kernel
theorem dX5_fees_50 : decode cX5_fees 50 = .ok (.iaload, 1) := by decide +kernel
theorem dX5_fees_51 : decode cX5_fees 51 = .ok (.goto 5, 3) := by decide +kernel
theorem dX5_fees_54 : decode cX5_fees 54 = .ok (.bipush (-4), 2) := by decide +kernel
theorem dX5_fees_56 : decode cX5_fees 56 = .ok (.ireturn, 1) := by decide +kernel
theorem dX5_isDrive_0 : decode cX5_isDrive 0 = .ok (.iload_n 1, 1) := by decide +kernel
theorem dX5_isDrive_1 : decode cX5_isDrive 1 = .ok (.ifCond .lt 15, 3) := by decide +kernel
theorem dX5_isDrive_4 : decode cX5_isDrive 4 = .ok (.iload_n 1, 1) := by decide +kernel
theorem dX5_isDrive_5 : decode cX5_isDrive 5 = .ok (.aload_n 0, 1) := by decide +kernel
theorem dX5_isDrive_6 : decode cX5_isDrive 6 = .ok (.getfield 141, 3) := by decide +kernel
theorem dX5_isDrive_9 : decode cX5_isDrive 9 = .ok (.if_icmp .ge 7, 3) := by decide +kernel
theorem dX5_isDrive_12 : decode cX5_isDrive 12 = .ok (.iconst 1, 1) := by decide +kernel
theorem dX5_isDrive_13 : decode cX5_isDrive 13 = .ok (.goto 4, 3) := by decide +kernel
theorem dX5_isDrive_16 : decode cX5_isDrive 16 = .ok (.iconst 0, 1) := by decide +kernel
theorem dX5_isDrive_17 : decode cX5_isDrive 17 = .ok (.ireturn, 1) := by decide +kernel
theorem dX5_isSight_0 : decode cX5_isSight 0 = .ok (.aload_n 0, 1) := by decide +kernel
theorem dX5_isSight_1 : decode cX5_isSight 1 = .ok (.iload_n 1, 1) := by decide +kernel
theorem dX5_isSight_2 : decode cX5_isSight 2 = .ok (.invokevirtual 144, 3) := by decide +kernel
theorem dX5_isSight_5 : decode cX5_isSight 5 = .ok (.ifCond .eq 21, 3) := by decide +kernel
theorem dX5_isSight_8 : decode cX5_isSight 8 = .ok (.iload_n 2, 1) := by decide +kernel
theorem dX5_isSight_9 : decode cX5_isSight 9 = .ok (.ifCond .lt 17, 3) := by decide +kernel
theorem dX5_isSight_12 : decode cX5_isSight 12 = .ok (.iload_n 2, 1) := by decide +kernel
theorem dX5_isSight_13 : decode cX5_isSight 13 = .ok (.aload_n 0, 1) := by decide +kernel
theorem dX5_isSight_14 : decode cX5_isSight 14 = .ok (.getfield 47, 3) := by decide +kernel
theorem dX5_isSight_17 : decode cX5_isSight 17 = .ok (.iload_n 1, 1) := by decide +kernel
theorem dX5_isSight_18 : decode cX5_isSight 18 = .ok (.iaload, 1) := by decide +kernel
theorem dX5_isSight_19 : decode cX5_isSight 19 = .ok (.if_icmp .ge 7, 3) := by decide +kernel
theorem dX5_isSight_22 : decode cX5_isSight 22 = .ok (.iconst 1, 1) := by decide +kernel
theorem dX5_isSight_23 : decode cX5_isSight 23 = .ok (.goto 4, 3) := by decide +kernel
theorem dX5_isSight_26 : decode cX5_isSight 26 = .ok (.iconst 0, 1) := by decide +kernel
theorem dX5_isSight_27 : decode cX5_isSight 27 = .ok (.ireturn, 1) := by decide +kernel
theorem dX5_drive_0 : decode cX5_drive 0 = .ok (.aload_n 0, 1) := by decide +kernel
theorem dX5_drive_1 : decode cX5_drive 1 = .ok (.getfield 141, 3) := by decide +kernel
theorem dX5_drive_4 : decode cX5_drive 4 = .ok (.bipush 6, 2) := by decide +kernel
theorem dX5_drive_6 : decode cX5_drive 6 = .ok (.if_icmp .ne 6, 3) := by decide +kernel
theorem dX5_drive_9 : decode cX5_drive 9 = .ok (.bipush (-2), 2) := by decide +kernel
theorem dX5_drive_11 : decode cX5_drive 11 = .ok (.ireturn, 1) := by decide +kernel
theorem dX5_drive_12 : decode cX5_drive 12 = .ok (.aload_n 0, 1) := by decide +kernel
theorem dX5_drive_13 : decode cX5_drive 13 = .ok (.dup, 1) := by decide +kernel
theorem dX5_drive_14 : decode cX5_drive 14 = .ok (.getfield 141, 3) := by decide +kernel
theorem dX5_drive_17 : decode cX5_drive 17 = .ok (.iconst 1, 1) := by decide +kernel
theorem dX5_drive_18 : decode cX5_drive 18 = .ok (.iadd, 1) := by decide +kernel
theorem dX5_drive_19 : decode cX5_drive 19 = .ok (.putfield 141, 3) := by decide +kernel
theorem dX5_drive_22 : decode cX5_drive 22 = .ok (.aload_n 0, 1) := by decide +kernel
theorem dX5_drive_23 : decode cX5_drive 23 = .ok (.getfield 141, 3) := by decide +kernel
theorem dX5_drive_26 : decode cX5_drive 26 = .ok (.iconst 1, 1) := by decide +kernel
theorem dX5_drive_27 : decode cX5_drive 27 = .ok (.isub, 1) := by decide +kernel
theorem dX5_drive_28 : decode cX5_drive 28 = .ok (.ireturn, 1) := by decide +kernel
