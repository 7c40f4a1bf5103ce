theorem dX5_sight_0 : decode cX5_sight 0 = .ok (.aload_n 0, 1) := by decide +kernel
theorem dX5_sight_1 : decode cX5_sight 1 = .ok (.iload_n 1, 1) := by decide +kernel
theorem dX5_sight_2 : decode cX5_sight 2 = .ok (.invokevirtual 144, 3) := by decide +kernel
theorem dX5_sight_5 : decode cX5_sight 5 = .ok (.ifCond .eq 42, 3) := by decide +kernel
theorem dX5_sight_8 : decode cX5_sight 8 = .ok (.iload_n 2, 1) := by decide +kernel
theorem dX5_sight_9 : decode cX5_sight 9 = .ok (.ifCond .lt 38, 3) := by decide +kernel
theorem dX5_sight_12 : decode cX5_sight 12 = .ok (.iload_n 2, 1) := by decide +kernel
theorem dX5_sight_13 : decode cX5_sight 13 = .ok (.bipush 100, 2) := by decide +kernel
theorem dX5_sight_15 : decode cX5_sight 15 = .ok (.idiv, 1) := by decide +kernel
theorem dX5_sight_16 : decode cX5_sight 16 = .ok (.iconst 0, 1) := by decide +kernel
theorem dX5_sight_17 : decode cX5_sight 17 = .ok (.bipush 99, 2) := by decide +kernel
theorem dX5_sight_19 : decode cX5_sight 19 = .ok (.invokestatic 87, 3) := by decide +kernel
theorem dX5_sight_22 : decode cX5_sight 22 = .ok (.ifCond .eq 25, 3) := by decide +kernel
theorem dX5_sight_25 : decode cX5_sight 25 = .ok (.iload_n 3, 1) := by decide +kernel
theorem dX5_sight_26 : decode cX5_sight 26 = .ok (.iconst 0, 1) := by decide +kernel
theorem dX5_sight_27 : decode cX5_sight 27 = .ok (.sipush 10000, 3) := by decide +kernel
theorem dX5_sight_30 : decode cX5_sight 30 = .ok (.invokestatic 87, 3) := by decide +kernel
theorem dX5_sight_33 : decode cX5_sight 33 = .ok (.ifCond .eq 14, 3) := by decide +kernel
theorem dX5_sight_36 : decode cX5_sight 36 = .ok (.iload 4, 2) := by decide +kernel
theorem dX5_sight_38 : decode cX5_sight 38 = .ok (.iconst 0, 1) := by decide +kernel
theorem dX5_sight_39 : decode cX5_sight 39 = .ok (.bipush 60, 2) := by decide +kernel
theorem dX5_sight_41 : decode cX5_sight 41 = .ok (.invokestatic 87, 3) := by decide +kernel
theorem dX5_sight_44 : decode cX5_sight 44 = .ok (.ifCond .ne 5, 3) := by decide +kernel
theorem dX5_sight_47 : decode cX5_sight 47 = .ok (.iconst (-1), 1) := by decide +kernel
theorem dX5_sight_48 : decode cX5_sight 48 = .ok (.ireturn, 1) := by decide +kernel
theorem dX5_sight_49 : decode cX5_sight 49 = .ok (.aload_n 0, 1) := by decide +kernel
theorem dX5_sight_50 : decode cX5_sight 50 = .ok (.getfield 47, 3) := by decide +kernel
theorem dX5_sight_53 : decode cX5_sight 53 = .ok (.iload_n 1, 1) := by decide +kernel
theorem dX5_sight_54 : decode cX5_sight 54 = .ok (.iaload, 1) := by decide +kernel
theorem dX5_sight_55 : decode cX5_sight 55 = .ok (.istore 5, 2) := by decide +kernel
theorem dX5_sight_57 : decode cX5_sight 57 = .ok (.iload 5, 2) := by decide +kernel
theorem dX5_sight_59 : decode cX5_sight 59 = .ok (.ifCond .le 23, 3) := by decide +kernel
theorem dX5_sight_62 : decode cX5_sight 62 = .ok (.iload_n 3, 1) := by decide +kernel
theorem dX5_sight_63 : decode cX5_sight 63 = .ok (.aload_n 0, 1) := by decide +kernel
theorem dX5_sight_64 : decode cX5_sight 64 = .ok (.getfield 41, 3) := by decide +kernel
theorem dX5_sight_67 : decode cX5_sight 67 = .ok (.bipush 20, 2) := by decide +kernel
theorem dX5_sight_69 : decode cX5_sight 69 = .ok (.iload_n 1, 1) := by decide +kernel
theorem dX5_sight_70 : decode cX5_sight 70 = .ok (.imul, 1) := by decide +kernel
theorem dX5_sight_71 : decode cX5_sight 71 = .ok (.iload 5, 2) := by decide +kernel
theorem dX5_sight_73 : decode cX5_sight 73 = .ok (.iadd, 1) := by decide +kernel
theorem dX5_sight_74 : decode cX5_sight 74 = .ok (.iconst 1, 1) := by decide +kernel
theorem dX5_sight_75 : decode cX5_sight 75 = .ok (.isub, 1) := by decide +kernel
theorem dX5_sight_76 : decode cX5_sight 76 = .ok (.iaload, 1) := by decide +kernel
theorem dX5_sight_77 : decode cX5_sight 77 = .ok (.if_icmp .gt 5, 3) := by decide +kernel
theorem dX5_sight_80 : decode cX5_sight 80 = .ok (.iconst (-1), 1) := by decide +kernel
theorem dX5_sight_81 : decode cX5_sight 81 = .ok (.ireturn, 1) := by decide +kernel
theorem dX5_sight_82 : decode cX5_sight 82 = .ok (.iload 5, 2) := by decide +kernel
theorem dX5_sight_84 : decode cX5_sight 84 = .ok (.bipush 20, 2) := by decide +kernel
theorem dX5_sight_86 : decode cX5_sight 86 = .ok (.if_icmp .ne 6, 3) := by decide +kernel
theorem dX5_sight_89 : decode cX5_sight 89 = .ok (.bipush (-2), 2) := by decide +kernel
theorem dX5_sight_91 : decode cX5_sight 91 = .ok (.ireturn, 1) := by decide +kernel
theorem dX5_sight_92 : decode cX5_sight 92 = .ok (.aload_n 0, 1) := by decide +kernel
theorem dX5_sight_93 : decode cX5_sight 93 = .ok (.getfield 35, 3) := by decide +kernel
theorem dX5_sight_96 : decode cX5_sight 96 = .ok (.bipush 20, 2) := by decide +kernel
theorem dX5_sight_98 : decode cX5_sight 98 = .ok (.iload_n 1, 1) := by decide +kernel
theorem dX5_sight_99 : decode cX5_sight 99 = .ok (.imul, 1) := by decide +kernel
theorem dX5_sight_100 : decode cX5_sight 100 = .ok (.iload 5, 2) := by decide +kernel
theorem dX5_sight_102 : decode cX5_sight 102 = .ok (.iadd, 1) := by decide +kernel
theorem dX5_sight_103 : decode cX5_sight 103 = .ok (.iload_n 2, 1) := by decide +kernel
theorem dX5_sight_104 : decode cX5_sight 104 = .ok (.bipush 100, 2) := by decide +kernel
theorem dX5_sight_106 : decode cX5_sight 106 = .ok (.idiv, 1) := by decide +kernel
theorem dX5_sight_107 : decode cX5_sight 107 = .ok (.iastore, 1) := by decide +kernel
theorem dX5_sight_108 : decode cX5_sight 108 = .ok (.aload_n 0, 1) := by decide +kernel
theorem dX5_sight_109 : decode cX5_sight 109 = .ok (.getfield 38, 3) := by decide +kernel
theorem dX5_sight_112 : decode cX5_sight 112 = .ok (.bipush 20, 2) := by decide +kernel
theorem dX5_sight_114 : decode cX5_sight 114 = .ok (.iload_n 1, 1) := by decide +kernel
theorem dX5_sight_115 : decode cX5_sight 115 = .ok (.imul, 1) := by decide +kernel
theorem dX5_sight_116 : decode cX5_sight 116 = .ok (.iload 5, 2) := by decide +kernel
theorem dX5_sight_118 : decode cX5_sight 118 = .ok (.iadd, 1) := by decide +kernel
theorem dX5_sight_119 : decode cX5_sight 119 = .ok (.iload_n 2, 1) := by decide +kernel
theorem dX5_sight_120 : decode cX5_sight 120 = .ok (.bipush 100, 2) := by decide +kernel
theorem dX5_sight_122 : decode cX5_sight 122 = .ok (.irem, 1) := by decide +kernel
theorem dX5_sight_123 : decode cX5_sight 123 = .ok (.iastore, 1) := by decide +kernel
theorem dX5_sight_124 : decode cX5_sight 124 = .ok (.aload_n 0, 1) := by decide +kernel
theorem dX5_sight_125 : decode cX5_sight 125 = .ok (.getfield 41, 3) := by decide +kernel
theorem dX5_sight_128 : decode cX5_sight 128 = .ok (.bipush 20, 2) := by decide +kernel
theorem dX5_sight_130 : decode cX5_sight 130 = .ok (.iload_n 1, 1) := by decide +kernel
theorem dX5_sight_131 : decode cX5_sight 131 = .ok (.imul, 1) := by decide +kernel
theorem dX5_sight_132 : decode cX5_sight 132 = .ok (.iload 5, 2) := by decide +kernel
theorem dX5_sight_134 : decode cX5_sight 134 = .ok (.iadd, 1) := by decide +kernel
theorem dX5_sight_135 : decode cX5_sight 135 = .ok (.iload_n 3, 1) := by decide +kernel
theorem dX5_sight_136 : decode cX5_sight 136 = .ok (.iastore, 1) := by decide +kernel
theorem dX5_sight_137 : decode cX5_sight 137 = .ok (.aload_n 0, 1) := by decide +kernel
theorem dX5_sight_138 : decode cX5_sight 138 = .ok (.getfield 44, 3) := by decide +kernel
theorem dX5_sight_141 : decode cX5_sight 141 = .ok (.bipush 20, 2) := by decide +kernel
theorem dX5_sight_143 : decode cX5_sight 143 = .ok (.iload_n 1, 1) := by decide +kernel
theorem dX5_sight_144 : decode cX5_sight 144 = .ok (.imul, 1) := by decide +kernel
theorem dX5_sight_145 : decode cX5_sight 145 = .ok (.iload 5, 2) := by decide +kernel
theorem dX5_sight_147 : decode cX5_sight 147 = .ok (.iadd, 1) := by decide +kernel
theorem dX5_sight_148 : decode cX5_sight 148 = .ok (.iload 4, 2) := by decide +kernel
theorem dX5_sight_150 : decode cX5_sight 150 = .ok (.iastore, 1) := by decide +kernel
theorem dX5_sight_151 : decode cX5_sight 151 = .ok (.aload_n 0, 1) := by decide +kernel
theorem dX5_sight_152 : decode cX5_sight 152 = .ok (.getfield 47, 3) := by decide +kernel
theorem dX5_sight_155 : decode cX5_sight 155 = .ok (.iload_n 1, 1) := by decide +kernel
theorem dX5_sight_156 : decode cX5_sight 156 = .ok (.dup2, 1) := by decide +kernel
theorem dX5_sight_157 : decode cX5_sight 157 = .ok (.iaload, 1) := by decide +kernel
theorem dX5_sight_158 : decode cX5_sight 158 = .ok (.iconst 1, 1) := by decide +kernel
theorem dX5_sight_159 : decode cX5_sight 159 = .ok (.iadd, 1) := by decide +kernel
theorem dX5_sight_160 : decode cX5_sight 160 = .ok (.iastore, 1) := by decide +kernel
theorem dX5_sight_161 : decode cX5_sight 161 = .ok (.iload 5, 2) := by decide +kernel
theorem dX5_sight_163 : decode cX5_sight 163 = .ok (.ireturn, 1) := by decide +kernel
theorem dX5_drop_0 : decode cX5_drop 0 = .ok (.aload_n 0, 1) := by decide +kernel
theorem dX5_drop_1 : decode cX5_drop 1 = .ok (.iload_n 1, 1) := by decide +kernel
theorem dX5_drop_2 : decode cX5_drop 2 = .ok (.invokevirtual 144, 3) := by decide +kernel
theorem dX5_drop_5 : decode cX5_drop 5 = .ok (.ifCond .ne 5, 3) := by decide +kernel
theorem dX5_drop_8 : decode cX5_drop 8 = .ok (.iconst (-1), 1) := by decide +kernel
theorem dX5_drop_9 : decode cX5_drop 9 = .ok (.ireturn, 1) := by decide +kernel
theorem dX5_drop_10 : decode cX5_drop 10 = .ok (.aload_n 0, 1) := by decide +kernel
theorem dX5_drop_11 : decode cX5_drop 11 = .ok (.getfield 47, 3) := by decide +kernel
theorem dX5_drop_14 : decode cX5_drop 14 = .ok (.iload_n 1, 1) := by decide +kernel
theorem dX5_drop_15 : decode cX5_drop 15 = .ok (.iaload, 1) := by decide +kernel
theorem dX5_drop_16 : decode cX5_drop 16 = .ok (.ifCond .ne 6, 3) := by decide +kernel
theorem dX5_drop_19 : decode cX5_drop 19 = .ok (.bipush (-3), 2) := by decide +kernel
theorem dX5_drop_21 : decode cX5_drop 21 = .ok (.ireturn, 1) := by decide +kernel
theorem dX5_drop_22 : decode cX5_drop 22 = .ok (.aload_n 0, 1) := by decide +kernel
theorem dX5_drop_23 : decode cX5_drop 23 = .ok (.getfield 47, 3) := by decide +kernel
theorem dX5_drop_26 : decode cX5_drop 26 = .ok (.iload_n 1, 1) := by decide +kernel
theorem dX5_drop_27 : decode cX5_drop 27 = .ok (.dup2, 1) := by decide +kernel
theorem dX5_drop_28 : decode cX5_drop 28 = .ok (.iaload, 1) := by decide +kernel
theorem dX5_drop_29 : decode cX5_drop 29 = .ok (.iconst 1, 1) := by decide +kernel
theorem dX5_drop_30 : decode cX5_drop 30 = .ok (.isub, 1) := by decide +kernel
theorem dX5_drop_31 : decode cX5_drop 31 = .ok (.iastore, 1) := by decide +kernel
theorem dX5_drop_32 : decode cX5_drop 32 = .ok (.aload_n 0, 1) := by decide +kernel
theorem dX5_drop_33 : decode cX5_drop 33 = .ok (.getfield 47, 3) := by decide +kernel
theorem dX5_drop_36 : decode cX5_drop 36 = .ok (.iload_n 1, 1) := by decide +kernel
theorem dX5_drop_37 : decode cX5_drop 37 = .ok (.iaload, 1) := by decide +kernel
theorem dX5_drop_38 : decode cX5_drop 38 = .ok (.ireturn, 1) := by decide +kernel
theorem dX5_prices_0 : decode cX5_prices 0 = .ok (.iload_n 1, 1) := by decide +kernel
theorem dX5_prices_1 : decode cX5_prices 1 = .ok (.iconst 1, 1) := by decide +kernel
theorem dX5_prices_2 : decode cX5_prices 2 = .ok (.bipush 100, 2) := by decide +kernel
theorem dX5_prices_4 : decode cX5_prices 4 = .ok (.invokestatic 87, 3) := by decide +kernel
theorem dX5_prices_7 : decode cX5_prices 7 = .ok (.ifCond .eq 14, 3) := by decide +kernel
theorem dX5_prices_10 : decode cX5_prices 10 = .ok (.iload_n 2, 1) := by decide +kernel
theorem dX5_prices_11 : decode cX5_prices 11 = .ok (.iconst 1, 1) := by decide +kernel
theorem dX5_prices_12 : decode cX5_prices 12 = .ok (.sipush 9999, 3) := by decide +kernel
theorem dX5_prices_15 : decode cX5_prices 15 = .ok (.invokestatic 87, 3) := by decide +kernel
theorem dX5_prices_18 : decode cX5_prices 18 = .ok (.ifCond .ne 5, 3) := by decide +kernel
theorem dX5_prices_21 : decode cX5_prices 21 = .ok (.iconst (-1), 1) := by decide +kernel
theorem dX5_prices_22 : decode cX5_prices 22 = .ok (.ireturn, 1) := by decide +kernel
theorem dX5_prices_23 : decode cX5_prices 23 = .ok (.aload_n 0, 1) := by decide +kernel
theorem dX5_prices_24 : decode cX5_prices 24 = .ok (.iload_n 1, 1) := by decide +kernel
theorem dX5_prices_25 : decode cX5_prices 25 = .ok (.putfield 50, 3) := by decide +kernel
theorem dX5_prices_28 : decode cX5_prices 28 = .ok (.aload_n 0, 1) := by decide +kernel
theorem dX5_prices_29 : decode cX5_prices 29 = .ok (.iload_n 2, 1) := by decide +kernel
theorem dX5_prices_30 : decode cX5_prices 30 = .ok (.putfield 54, 3) := by decide +kernel
theorem dX5_prices_33 : decode cX5_prices 33 = .ok (.iconst 1, 1) := by decide +kernel
theorem dX5_prices_34 : decode cX5_prices 34 = .ok (.ireturn, 1) := by decide +kernel
theorem dX5_offOf_0 : decode cX5_offOf 0 = .ok (.iload_n 3, 1) := by decide +kernel
theorem dX5_offOf_1 : decode cX5_offOf 1 = .ok (.iconst 5, 1) := by decide +kernel
theorem dX5_offOf_2 : decode cX5_offOf 2 = .ok (.idiv, 1) := by decide +kernel
theorem dX5_offOf_3 : decode cX5_offOf 3 = .ok (.istore 4, 2) := by decide +kernel
theorem dX5_offOf_5 : decode cX5_offOf 5 = .ok (.iload_n 3, 1) := by decide +kernel
theorem dX5_offOf_6 : decode cX5_offOf 6 = .ok (.iconst 5, 1) := by decide +kernel
theorem dX5_offOf_7 : decode cX5_offOf 7 = .ok (.irem, 1) := by decide +kernel
theorem dX5_offOf_8 : decode cX5_offOf 8 = .ok (.istore 5, 2) := by decide +kernel
theorem dX5_offOf_10 : decode cX5_offOf 10 = .ok (.iconst 4, 1) := by decide +kernel
theorem dX5_offOf_11 : decode cX5_offOf 11 = .ok (.aload_n 0, 1) := by decide +kernel
theorem dX5_offOf_12 : decode cX5_offOf 12 = .ok (.getfield 9, 3) := by decide +kernel
theorem dX5_offOf_15 : decode cX5_offOf 15 = .ok (.aload_n 0, 1) := by decide +kernel
theorem dX5_offOf_16 : decode cX5_offOf 16 = .ok (.getfield 16, 3) := by decide +kernel
theorem dX5_offOf_19 : decode cX5_offOf 19 = .ok (.iload 4, 2) := by decide +kernel
theorem dX5_offOf_21 : decode cX5_offOf 21 = .ok (.iaload, 1) := by decide +kernel
theorem dX5_offOf_22 : decode cX5_offOf 22 = .ok (.iaload, 1) := by decide +kernel
theorem dX5_offOf_23 : decode cX5_offOf 23 = .ok (.imul, 1) := by decide +kernel
theorem dX5_offOf_24 : decode cX5_offOf 24 = .ok (.iload 5, 2) := by decide +kernel
theorem dX5_offOf_26 : decode cX5_offOf 26 = .ok (.aload_n 0, 1) := by decide +kernel
theorem dX5_offOf_27 : decode cX5_offOf 27 = .ok (.getfield 9, 3) := by decide +kernel
theorem dX5_offOf_30 : decode cX5_offOf 30 = .ok (.aload_n 0, 1) := by decide +kernel
theorem dX5_offOf_31 : decode cX5_offOf 31 = .ok (.getfield 19, 3) := by decide +kernel
theorem dX5_offOf_34 : decode cX5_offOf 34 = .ok (.iload 4, 2) := by decide +kernel
theorem dX5_offOf_36 : decode cX5_offOf 36 = .ok (.iaload, 1) := by decide +kernel
theorem dX5_offOf_37 : decode cX5_offOf 37 = .ok (.iaload, 1) := by decide +kernel
theorem dX5_offOf_38 : decode cX5_offOf 38 = .ok (.aload_n 0, 1) := by decide +kernel
theorem dX5_offOf_39 : decode cX5_offOf 39 = .ok (.getfield 9, 3) := by decide +kernel
theorem dX5_offOf_42 : decode cX5_offOf 42 = .ok (.aload_n 0, 1) := by decide +kernel
theorem dX5_offOf_43 : decode cX5_offOf 43 = .ok (.getfield 16, 3) := by decide +kernel
theorem dX5_offOf_46 : decode cX5_offOf 46 = .ok (.iload 4, 2) := by decide +kernel
theorem dX5_offOf_48 : decode cX5_offOf 48 = .ok (.iaload, 1) := by decide +kernel
theorem dX5_offOf_49 : decode cX5_offOf 49 = .ok (.iaload, 1) := by decide +kernel
theorem dX5_offOf_50 : decode cX5_offOf 50 = .ok (.isub, 1) := by decide +kernel
theorem dX5_offOf_51 : decode cX5_offOf 51 = .ok (.imul, 1) := by decide +kernel
theorem dX5_offOf_52 : decode cX5_offOf 52 = .ok (.iadd, 1) := by decide +kernel
theorem dX5_offOf_53 : decode cX5_offOf 53 = .ok (.iconst 4, 1) := by decide +kernel
theorem dX5_offOf_54 : decode cX5_offOf 54 = .ok (.aload_n 0, 1) := by decide +kernel
theorem dX5_offOf_55 : decode cX5_offOf 55 = .ok (.getfield 35, 3) := by decide +kernel
theorem dX5_offOf_58 : decode cX5_offOf 58 = .ok (.bipush 20, 2) := by decide +kernel
theorem dX5_offOf_60 : decode cX5_offOf 60 = .ok (.iload_n 1, 1) := by decide +kernel
theorem dX5_offOf_61 : decode cX5_offOf 61 = .ok (.imul, 1) := by decide +kernel
theorem dX5_offOf_62 : decode cX5_offOf 62 = .ok (.iload_n 2, 1) := by decide +kernel
theorem dX5_offOf_63 : decode cX5_offOf 63 = .ok (.iadd, 1) := by decide +kernel
theorem dX5_offOf_64 : decode cX5_offOf 64 = .ok (.iaload, 1) := by decide +kernel
theorem dX5_offOf_65 : decode cX5_offOf 65 = .ok (.imul, 1) := by decide +kernel
theorem dX5_offOf_66 : decode cX5_offOf 66 = .ok (.isub, 1) := by decide +kernel
theorem dX5_offOf_67 : decode cX5_offOf 67 = .ok (.istore 6, 2) := by decide +kernel
theorem dX5_offOf_69 : decode cX5_offOf 69 = .ok (.iconst 4, 1) := by decide +kernel
theorem dX5_offOf_70 : decode cX5_offOf 70 = .ok (.aload_n 0, 1) := by decide +kernel
theorem dX5_offOf_71 : decode cX5_offOf 71 = .ok (.getfield 13, 3) := by decide +kernel
theorem dX5_offOf_74 : decode cX5_offOf 74 = .ok (.aload_n 0, 1) := by decide +kernel
theorem dX5_offOf_75 : decode cX5_offOf 75 = .ok (.getfield 16, 3) := by decide +kernel
theorem dX5_offOf_78 : decode cX5_offOf 78 = .ok (.iload 4, 2) := by decide +kernel
theorem dX5_offOf_80 : decode cX5_offOf 80 = .ok (.iaload, 1) := by decide +kernel
theorem dX5_offOf_81 : decode cX5_offOf 81 = .ok (.iaload, 1) := by decide +kernel
theorem dX5_offOf_82 : decode cX5_offOf 82 = .ok (.imul, 1) := by decide +kernel
theorem dX5_offOf_83 : decode cX5_offOf 83 = .ok (.iload 5, 2) := by decide +kernel
theorem dX5_offOf_85 : decode cX5_offOf 85 = .ok (.aload_n 0, 1) := by decide +kernel
theorem dX5_offOf_86 : decode cX5_offOf 86 = .ok (.getfield 13, 3) := by decide +kernel
theorem dX5_offOf_89 : decode cX5_offOf 89 = .ok (.aload_n 0, 1) := by decide +kernel
theorem dX5_offOf_90 : decode cX5_offOf 90 = .ok (.getfield 19, 3) := by decide +kernel
theorem dX5_offOf_93 : decode cX5_offOf 93 = .ok (.iload 4, 2) := by decide +kernel
theorem dX5_offOf_95 : decode cX5_offOf 95 = .ok (.iaload, 1) := by decide +kernel
theorem dX5_offOf_96 : decode cX5_offOf 96 = .ok (.iaload, 1) := by decide +kernel
theorem dX5_offOf_97 : decode cX5_offOf 97 = .ok (.aload_n 0, 1) := by decide +kernel
theorem dX5_offOf_98 : decode cX5_offOf 98 = .ok (.getfield 13, 3) := by decide +kernel
theorem dX5_offOf_101 : decode cX5_offOf 101 = .ok (.aload_n 0, 1) := by decide +kernel
theorem dX5_offOf_102 : decode cX5_offOf 102 = .ok (.getfield 16, 3) := by decide +kernel
theorem dX5_offOf_105 : decode cX5_offOf 105 = .ok (.iload 4, 2) := by decide +kernel
theorem dX5_offOf_107 : decode cX5_offOf 107 = .ok (.iaload, 1) := by decide +kernel
theorem dX5_offOf_108 : decode cX5_offOf 108 = .ok (.iaload, 1) := by decide +kernel
theorem dX5_offOf_109 : decode cX5_offOf 109 = .ok (.isub, 1) := by decide +kernel
theorem dX5_offOf_110 : decode cX5_offOf 110 = .ok (.imul, 1) := by decide +kernel
theorem dX5_offOf_111 : decode cX5_offOf 111 = .ok (.iadd, 1) := by decide +kernel
theorem dX5_offOf_112 : decode cX5_offOf 112 = .ok (.iconst 4, 1) := by decide +kernel
theorem dX5_offOf_113 : decode cX5_offOf 113 = .ok (.aload_n 0, 1) := by decide +kernel
theorem dX5_offOf_114 : decode cX5_offOf 114 = .ok (.getfield 38, 3) := by decide +kernel
theorem dX5_offOf_117 : decode cX5_offOf 117 = .ok (.bipush 20, 2) := by decide +kernel
theorem dX5_offOf_119 : decode cX5_offOf 119 = .ok (.iload_n 1, 1) := by decide +kernel
theorem dX5_offOf_120 : decode cX5_offOf 120 = .ok (.imul, 1) := by decide +kernel
theorem dX5_offOf_121 : decode cX5_offOf 121 = .ok (.iload_n 2, 1) := by decide +kernel
theorem dX5_offOf_122 : decode cX5_offOf 122 = .ok (.iadd, 1) := by decide +kernel
theorem dX5_offOf_123 : decode cX5_offOf 123 = .ok (.iaload, 1) := by decide +kernel
theorem dX5_offOf_124 : decode cX5_offOf 124 = .ok (.imul, 1) := by decide +kernel
theorem dX5_offOf_125 : decode cX5_offOf 125 = .ok (.isub, 1) := by decide +kernel
theorem dX5_offOf_126 : decode cX5_offOf 126 = .ok (.istore 7, 2) := by decide +kernel
theorem dX5_offOf_128 : decode cX5_offOf 128 = .ok (.iload 6, 2) := by decide +kernel
theorem dX5_offOf_130 : decode cX5_offOf 130 = .ok (.iload 6, 2) := by decide +kernel
theorem dX5_offOf_132 : decode cX5_offOf 132 = .ok (.imul, 1) := by decide +kernel
theorem dX5_offOf_133 : decode cX5_offOf 133 = .ok (.iload 7, 2) := by decide +kernel
theorem dX5_offOf_135 : decode cX5_offOf 135 = .ok (.iload 7, 2) := by decide +kernel
theorem dX5_offOf_137 : decode cX5_offOf 137 = .ok (.imul, 1) := by decide +kernel
theorem dX5_offOf_138 : decode cX5_offOf 138 = .ok (.iadd, 1) := by decide +kernel
theorem dX5_offOf_139 : decode cX5_offOf 139 = .ok (.bipush 16, 2) := by decide +kernel
theorem dX5_offOf_141 : decode cX5_offOf 141 = .ok (.idiv, 1) := by decide +kernel
theorem dX5_offOf_142 : decode cX5_offOf 142 = .ok (.ireturn, 1) := by decide +kernel
theorem dX5_findSpots_0 : decode cX5_findSpots 0 = .ok (.aload_n 0, 1) := by decide +kernel
theorem dX5_findSpots_1 : decode cX5_findSpots 1 = .ok (.iload_n 1, 1) := by decide +kernel
theorem dX5_findSpots_2 : decode cX5_findSpots 2 = .ok (.putfield 147, 3) := by decide +kernel
theorem dX5_findSpots_5 : decode cX5_findSpots 5 = .ok (.iconst 0, 1) := by decide +kernel
theorem dX5_findSpots_6 : decode cX5_findSpots 6 = .ok (.istore_n 2, 1) := by decide +kernel
theorem dX5_findSpots_7 : decode cX5_findSpots 7 = .ok (.iload_n 2, 1) := by decide +kernel
theorem dX5_findSpots_8 : decode cX5_findSpots 8 = .ok (.aload_n 0, 1) := by decide +kernel
theorem dX5_findSpots_9 : decode cX5_findSpots 9 = .ok (.getfield 47, 3) := by decide +kernel
theorem dX5_findSpots_12 : decode cX5_findSpots 12 = .ok (.iload_n 1, 1) := by decide +kernel
theorem dX5_findSpots_13 : decode cX5_findSpots 13 = .ok (.iaload, 1) := by decide +kernel
theorem dX5_findSpots_14 : decode cX5_findSpots 14 = .ok (.if_icmp .ge 191, 3) := by decide +kernel
theorem dX5_findSpots_17 : decode cX5_findSpots 17 = .ok (.aload_n 0, 1) := by decide +kernel
theorem dX5_findSpots_18 : decode cX5_findSpots 18 = .ok (.getfield 44, 3) := by decide +kernel
theorem dX5_findSpots_21 : decode cX5_findSpots 21 = .ok (.bipush 20, 2) := by decide +kernel
theorem dX5_findSpots_23 : decode cX5_findSpots 23 = .ok (.iload_n 1, 1) := by decide +kernel
theorem dX5_findSpots_24 : decode cX5_findSpots 24 = .ok (.imul, 1) := by decide +kernel
theorem dX5_findSpots_25 : decode cX5_findSpots 25 = .ok (.iload_n 2, 1) := by decide +kernel
theorem dX5_findSpots_26 : decode cX5_findSpots 26 = .ok (.iadd, 1) := by decide +kernel
theorem dX5_findSpots_27 : decode cX5_findSpots 27 = .ok (.iaload, 1) := by decide +kernel
theorem dX5_findSpots_28 : decode cX5_findSpots 28 = .ok (.istore_n 3, 1) := by decide +kernel
theorem dX5_findSpots_29 : decode cX5_findSpots 29 = .ok (.aload_n 0, 1) := by decide +kernel
theorem dX5_findSpots_30 : decode cX5_findSpots 30 = .ok (.getfield 75, 3) := by decide +kernel
theorem dX5_findSpots_33 : decode cX5_findSpots 33 = .ok (.iload_n 2, 1) := by decide +kernel
theorem dX5_findSpots_34 : decode cX5_findSpots 34 = .ok (.iconst 0, 1) := by decide +kernel
theorem dX5_findSpots_35 : decode cX5_findSpots 35 = .ok (.iastore, 1) := by decide +kernel
theorem dX5_findSpots_36 : decode cX5_findSpots 36 = .ok (.iconst 0, 1) := by decide +kernel
theorem dX5_findSpots_37 : decode cX5_findSpots 37 = .ok (.istore 4, 2) := by decide +kernel
theorem dX5_findSpots_39 : decode cX5_findSpots 39 = .ok (.iload 4, 2) := by decide +kernel
theorem dX5_findSpots_41 : decode cX5_findSpots 41 = .ok (.iconst 5, 1) := by decide +kernel
theorem dX5_findSpots_42 : decode cX5_findSpots 42 = .ok (.aload_n 0, 1) := by decide +kernel
theorem dX5_findSpots_43 : decode cX5_findSpots 43 = .ok (.getfield 94, 3) := by decide +kernel
theorem dX5_findSpots_46 : decode cX5_findSpots 46 = .ok (.imul, 1) := by decide +kernel
theorem dX5_findSpots_47 : decode cX5_findSpots 47 = .ok (.if_icmp .ge 152, 3) := by decide +kernel
theorem dX5_findSpots_50 : decode cX5_findSpots 50 = .ok (.aload_n 0, 1) := by decide +kernel
theorem dX5_findSpots_51 : decode cX5_findSpots 51 = .ok (.iload_n 1, 1) := by decide +kernel
theorem dX5_findSpots_52 : decode cX5_findSpots 52 = .ok (.iload_n 2, 1) := by decide +kernel
theorem dX5_findSpots_53 : decode cX5_findSpots 53 = .ok (.iload 4, 2) := by decide +kernel
theorem dX5_findSpots_55 : decode cX5_findSpots 55 = .ok (.invokevirtual 150, 3) := by decide +kernel
theorem dX5_findSpots_58 : decode cX5_findSpots 58 = .ok (.istore 5, 2) := by decide +kernel
theorem dX5_findSpots_60 : decode cX5_findSpots 60 = .ok (.aload_n 0, 1) := by decide +kernel
theorem dX5_findSpots_61 : decode cX5_findSpots 61 = .ok (.getfield 25, 3) := by decide +kernel
theorem dX5_findSpots_64 : decode cX5_findSpots 64 = .ok (.iload 4, 2) := by decide +kernel
theorem dX5_findSpots_66 : decode cX5_findSpots 66 = .ok (.iconst 5, 1) := by decide +kernel
theorem dX5_findSpots_67 : decode cX5_findSpots 67 = .ok (.idiv, 1) := by decide +kernel
theorem dX5_findSpots_68 : decode cX5_findSpots 68 = .ok (.iaload, 1) := by decide +kernel
theorem dX5_findSpots_69 : decode cX5_findSpots 69 = .ok (.iconst 2, 1) := by decide +kernel
theorem dX5_findSpots_70 : decode cX5_findSpots 70 = .ok (.if_icmp .eq 123, 3) := by decide +kernel
theorem dX5_findSpots_73 : decode cX5_findSpots 73 = .ok (.iload 5, 2) := by decide +kernel
theorem dX5_findSpots_75 : decode cX5_findSpots 75 = .ok (.iload_n 3, 1) := by decide +kernel
theorem dX5_findSpots_76 : decode cX5_findSpots 76 = .ok (.iload_n 3, 1) := by decide +kernel
theorem dX5_findSpots_77 : decode cX5_findSpots 77 = .ok (.imul, 1) := by decide +kernel
theorem dX5_findSpots_78 : decode cX5_findSpots 78 = .ok (.if_icmp .gt 115, 3) := by decide +kernel
theorem dX5_findSpots_81 : decode cX5_findSpots 81 = .ok (.iconst 0, 1) := by decide +kernel
theorem dX5_findSpots_82 : decode cX5_findSpots 82 = .ok (.istore 6, 2) := by decide +kernel
theorem dX5_findSpots_84 : decode cX5_findSpots 84 = .ok (.iconst 0, 1) := by decide +kernel
theorem dX5_findSpots_85 : decode cX5_findSpots 85 = .ok (.istore 7, 2) := by decide +kernel
theorem dX5_findSpots_87 : decode cX5_findSpots 87 = .ok (.iload 7, 2) := by decide +kernel
theorem dX5_findSpots_89 : decode cX5_findSpots 89 = .ok (.iconst 5, 1) := by decide +kernel
theorem dX5_findSpots_90 : decode cX5_findSpots 90 = .ok (.aload_n 0, 1) := by decide +kernel
theorem dX5_findSpots_91 : decode cX5_findSpots 91 = .ok (.getfield 94, 3) := by decide +kernel
theorem dX5_findSpots_94 : decode cX5_findSpots 94 = .ok (.imul, 1) := by decide +kernel
theorem dX5_findSpots_95 : decode cX5_findSpots 95 = .ok (.if_icmp .ge 63, 3) := by decide +kernel
theorem dX5_findSpots_98 : decode cX5_findSpots 98 = .ok (.aload_n 0, 1) := by decide +kernel
theorem dX5_findSpots_99 : decode cX5_findSpots 99 = .ok (.iload_n 1, 1) := by decide +kernel
theorem dX5_findSpots_100 : decode cX5_findSpots 100 = .ok (.iload_n 2, 1) := by decide +kernel
theorem dX5_findSpots_101 : decode cX5_findSpots 101 = .ok (.iload 7, 2) := by decide +kernel
theorem dX5_findSpots_103 : decode cX5_findSpots 103 = .ok (.invokevirtual 150, 3) := by decide +kernel
theorem dX5_findSpots_106 : decode cX5_findSpots 106 = .ok (.istore 8, 2) := by decide +kernel
theorem dX5_findSpots_108 : decode cX5_findSpots 108 = .ok (.iload 6, 2) := by decide +kernel
theorem dX5_findSpots_110 : decode cX5_findSpots 110 = .ok (.aload_n 0, 1) := by decide +kernel
theorem dX5_findSpots_111 : decode cX5_findSpots 111 = .ok (.getfield 25, 3) := by decide +kernel
theorem dX5_findSpots_114 : decode cX5_findSpots 114 = .ok (.iload 7, 2) := by decide +kernel
theorem dX5_findSpots_116 : decode cX5_findSpots 116 = .ok (.iconst 5, 1) := by decide +kernel
theorem dX5_findSpots_117 : decode cX5_findSpots 117 = .ok (.idiv, 1) := by decide +kernel
theorem dX5_findSpots_118 : decode cX5_findSpots 118 = .ok (.iaload, 1) := by decide +kernel
theorem dX5_findSpots_119 : decode cX5_findSpots 119 = .ok (.iconst 2, 1) := by decide +kernel
theorem dX5_findSpots_120 : decode cX5_findSpots 120 = .ok (.if_icmp .eq 28, 3) := by decide +kernel
theorem dX5_findSpots_123 : decode cX5_findSpots 123 = .ok (.iload 8, 2) := by decide +kernel
theorem dX5_findSpots_125 : decode cX5_findSpots 125 = .ok (.iload 5, 2) := by decide +kernel
theorem dX5_findSpots_127 : decode cX5_findSpots 127 = .ok (.if_icmp .lt 17, 3) := by decide +kernel
theorem dX5_findSpots_130 : decode cX5_findSpots 130 = .ok (.iload 8, 2) := by decide +kernel
theorem dX5_findSpots_132 : decode cX5_findSpots 132 = .ok (.iload 5, 2) := by decide +kernel
theorem dX5_findSpots_134 : decode cX5_findSpots 134 = .ok (.if_icmp .ne 14, 3) := by decide +kernel
theorem dX5_findSpots_137 : decode cX5_findSpots 137 = .ok (.iload 7, 2) := by decide +kernel
theorem dX5_findSpots_139 : decode cX5_findSpots 139 = .ok (.iload 4, 2) := by decide +kernel
theorem dX5_findSpots_141 : decode cX5_findSpots 141 = .ok (.if_icmp .ge 7, 3) := by decide +kernel
theorem dX5_findSpots_144 : decode cX5_findSpots 144 = .ok (.iconst 1, 1) := by decide +kernel
theorem dX5_findSpots_145 : decode cX5_findSpots 145 = .ok (.goto 4, 3) := by decide +kernel
theorem dX5_findSpots_148 : decode cX5_findSpots 148 = .ok (.iconst 0, 1) := by decide +kernel
theorem dX5_findSpots_149 : decode cX5_findSpots 149 = .ok (.iadd, 1) := by decide +kernel
theorem dX5_findSpots_150 : decode cX5_findSpots 150 = .ok (.istore 6, 2) := by decide +kernel
theorem dX5_findSpots_152 : decode cX5_findSpots 152 = .ok (.iinc 7 1, 3) := by decide +kernel
theorem dX5_findSpots_155 : decode cX5_findSpots 155 = .ok (.goto (-68), 3) := by decide +kernel
theorem dX5_findSpots_158 : decode cX5_findSpots 158 = .ok (.iload 6, 2) := by decide +kernel
theorem dX5_findSpots_160 : decode cX5_findSpots 160 = .ok (.bipush 10, 2) := by decide +kernel
theorem dX5_findSpots_162 : decode cX5_findSpots 162 = .ok (.if_icmp .ge 31, 3) := by decide +kernel
theorem dX5_findSpots_165 : decode cX5_findSpots 165 = .ok (.aload_n 0, 1) := by decide +kernel
theorem dX5_findSpots_166 : decode cX5_findSpots 166 = .ok (.getfield 72, 3) := by decide +kernel
theorem dX5_findSpots_169 : decode cX5_findSpots 169 = .ok (.bipush 10, 2) := by decide +kernel
theorem dX5_findSpots_171 : decode cX5_findSpots 171 = .ok (.iload_n 2, 1) := by decide +kernel
theorem dX5_findSpots_172 : decode cX5_findSpots 172 = .ok (.imul, 1) := by decide +kernel
theorem dX5_findSpots_173 : decode cX5_findSpots 173 = .ok (.aload_n 0, 1) := by decide +kernel
theorem dX5_findSpots_174 : decode cX5_findSpots 174 = .ok (.getfield 75, 3) := by decide +kernel
theorem dX5_findSpots_177 : decode cX5_findSpots 177 = .ok (.iload_n 2, 1) := by decide +kernel
theorem dX5_findSpots_178 : decode cX5_findSpots 178 = .ok (.iaload, 1) := by decide +kernel
theorem dX5_findSpots_179 : decode cX5_findSpots 179 = .ok (.iadd, 1) := by decide +kernel
theorem dX5_findSpots_180 : decode cX5_findSpots 180 = .ok (.iload 4, 2) := by decide +kernel
theorem dX5_findSpots_182 : decode cX5_findSpots 182 = .ok (.iastore, 1) := by decide +kernel
theorem dX5_findSpots_183 : decode cX5_findSpots 183 = .ok (.aload_n 0, 1) := by decide +kernel
theorem dX5_findSpots_184 : decode cX5_findSpots 184 = .ok (.getfield 75, 3) := by decide +kernel
theorem dX5_findSpots_187 : decode cX5_findSpots 187 = .ok (.iload_n 2, 1) := by decide +kernel
theorem dX5_findSpots_188 : decode cX5_findSpots 188 = .ok (.dup2, 1) := by decide +kernel
theorem dX5_findSpots_189 : decode cX5_findSpots 189 = .ok (.iaload, 1) := by decide +kernel
theorem dX5_findSpots_190 : decode cX5_findSpots 190 = .ok (.iconst 1, 1) := by decide +kernel
theorem dX5_findSpots_191 : decode cX5_findSpots 191 = .ok (.iadd, 1) := by decide +kernel
theorem dX5_findSpots_192 : decode cX5_findSpots 192 = .ok (.iastore, 1) := by decide +kernel
theorem dX5_findSpots_193 : decode cX5_findSpots 193 = .ok (.iinc 4 1, 3) := by decide +kernel
theorem dX5_findSpots_196 : decode cX5_findSpots 196 = .ok (.goto (-157), 3) := by decide +kernel
theorem dX5_findSpots_199 : decode cX5_findSpots 199 = .ok (.iinc 2 1, 3) := by decide +kernel
theorem dX5_findSpots_202 : decode cX5_findSpots 202 = .ok (.goto (-195), 3) := by decide +kernel
theorem dX5_findSpots_205 : decode cX5_findSpots 205 = .ok (.return_, 1) := by decide +kernel
theorem dX5_spot_0 : decode cX5_spot 0 = .ok (.aload_n 0, 1) := by decide +kernel
theorem dX5_spot_1 : decode cX5_spot 1 = .ok (.iload_n 1, 1) := by decide +kernel
theorem dX5_spot_2 : decode cX5_spot 2 = .ok (.iload_n 2, 1) := by decide +kernel
theorem dX5_spot_3 : decode cX5_spot 3 = .ok (.invokevirtual 154, 3) := by decide +kernel
theorem dX5_spot_6 : decode cX5_spot 6 = .ok (.ifCond .ne 5, 3) := by decide +kernel
theorem dX5_spot_9 : decode cX5_spot 9 = .ok (.iconst (-1), 1) := by decide +kernel
theorem dX5_spot_10 : decode cX5_spot 10 = .ok (.ireturn, 1) := by decide +kernel
theorem dX5_spot_11 : decode cX5_spot 11 = .ok (.aload_n 0, 1) := by decide +kernel
theorem dX5_spot_12 : decode cX5_spot 12 = .ok (.iload_n 1, 1) := by decide +kernel
theorem dX5_spot_13 : decode cX5_spot 13 = .ok (.invokevirtual 158, 3) := by decide +kernel
theorem dX5_spot_16 : decode cX5_spot 16 = .ok (.iload_n 3, 1) := by decide +kernel
theorem dX5_spot_17 : decode cX5_spot 17 = .ok (.iconst (-1), 1) := by decide +kernel
theorem dX5_spot_18 : decode cX5_spot 18 = .ok (.if_icmp .ne 12, 3) := by decide +kernel
theorem dX5_spot_21 : decode cX5_spot 21 = .ok (.aload_n 0, 1) := by decide +kernel
theorem dX5_spot_22 : decode cX5_spot 22 = .ok (.getfield 75, 3) := by decide +kernel
theorem dX5_spot_25 : decode cX5_spot 25 = .ok (.iload_n 2, 1) := by decide +kernel
theorem dX5_spot_26 : decode cX5_spot 26 = .ok (.iaload, 1) := by decide +kernel
theorem dX5_spot_27 : decode cX5_spot 27 = .ok (.goto 32, 3) := by decide +kernel
theorem dX5_spot_30 : decode cX5_spot 30 = .ok (.iload_n 3, 1) := by decide +kernel
theorem dX5_spot_31 : decode cX5_spot 31 = .ok (.ifCond .lt 27, 3) := by decide +kernel
theorem dX5_spot_34 : decode cX5_spot 34 = .ok (.iload_n 3, 1) := by decide +kernel
theorem dX5_spot_35 : decode cX5_spot 35 = .ok (.aload_n 0, 1) := by decide +kernel
theorem dX5_spot_36 : decode cX5_spot 36 = .ok (.getfield 75, 3) := by decide +kernel
theorem dX5_spot_39 : decode cX5_spot 39 = .ok (.iload_n 2, 1) := by decide +kernel
theorem dX5_spot_40 : decode cX5_spot 40 = .ok (.iaload, 1) := by decide +kernel
theorem dX5_spot_41 : decode cX5_spot 41 = .ok (.if_icmp .ge 17, 3) := by decide +kernel
theorem dX5_spot_44 : decode cX5_spot 44 = .ok (.aload_n 0, 1) := by decide +kernel
theorem dX5_spot_45 : decode cX5_spot 45 = .ok (.getfield 72, 3) := by decide +kernel
theorem dX5_spot_48 : decode cX5_spot 48 = .ok (.bipush 10, 2) := by decide +kernel
theorem dX5_spot_50 : decode cX5_spot 50 = .ok (.iload_n 2, 1) := by decide +kernel
theorem dX5_spot_51 : decode cX5_spot 51 = .ok (.imul, 1) := by decide +kernel
theorem dX5_spot_52 : decode cX5_spot 52 = .ok (.iload_n 3, 1) := by decide +kernel
theorem dX5_spot_53 : decode cX5_spot 53 = .ok (.iadd, 1) := by decide +kernel
theorem dX5_spot_54 : decode cX5_spot 54 = .ok (.iaload, 1) := by decide +kernel
theorem dX5_spot_55 : decode cX5_spot 55 = .ok (.goto 4, 3) := by decide +kernel
theorem dX5_spot_58 : decode cX5_spot 58 = .ok (.iconst (-1), 1) := by decide +kernel
theorem dX5_spot_59 : decode cX5_spot 59 = .ok (.ireturn, 1) := by decide +kernel
theorem dX5_off_0 : decode cX5_off 0 = .ok (.aload_n 0, 1) := by decide +kernel
theorem dX5_off_1 : decode cX5_off 1 = .ok (.iload_n 1, 1) := by decide +kernel
theorem dX5_off_2 : decode cX5_off 2 = .ok (.iload_n 2, 1) := by decide +kernel
theorem dX5_off_3 : decode cX5_off 3 = .ok (.invokevirtual 154, 3) := by decide +kernel
theorem dX5_off_6 : decode cX5_off 6 = .ok (.ifCond .eq 21, 3) := by decide +kernel
theorem dX5_off_9 : decode cX5_off 9 = .ok (.aload_n 0, 1) := by decide +kernel
theorem dX5_off_10 : decode cX5_off 10 = .ok (.iload_n 3, 1) := by decide +kernel
theorem dX5_off_11 : decode cX5_off 11 = .ok (.invokevirtual 135, 3) := by decide +kernel
theorem dX5_off_14 : decode cX5_off 14 = .ok (.ifCond .eq 13, 3) := by decide +kernel
theorem dX5_off_17 : decode cX5_off 17 = .ok (.aload_n 0, 1) := by decide +kernel
theorem dX5_off_18 : decode cX5_off 18 = .ok (.iload_n 1, 1) := by decide +kernel
theorem dX5_off_19 : decode cX5_off 19 = .ok (.iload_n 2, 1) := by decide +kernel
theorem dX5_off_20 : decode cX5_off 20 = .ok (.iload_n 3, 1) := by decide +kernel
theorem dX5_off_21 : decode cX5_off 21 = .ok (.invokevirtual 150, 3) := by decide +kernel
theorem dX5_off_24 : decode cX5_off 24 = .ok (.goto 4, 3) := by decide +kernel
theorem dX5_off_27 : decode cX5_off 27 = .ok (.iconst (-1), 1) := by decide +kernel
theorem dX5_off_28 : decode cX5_off 28 = .ok (.ireturn, 1) := by decide +kernel
theorem dX5_step_0 : decode cX5_step 0 = .ok (.aload_n 0, 1) := by decide +kernel
theorem dX5_step_1 : decode cX5_step 1 = .ok (.getfield 60, 3) := by decide +kernel
theorem dX5_step_4 : decode cX5_step 4 = .ok (.sipush 150, 3) := by decide +kernel
theorem dX5_step_7 : decode cX5_step 7 = .ok (.iload_n 2, 1) := by decide +kernel
theorem dX5_step_8 : decode cX5_step 8 = .ok (.imul, 1) := by decide +kernel
theorem dX5_step_9 : decode cX5_step 9 = .ok (.iload 4, 2) := by decide +kernel
theorem dX5_step_11 : decode cX5_step 11 = .ok (.iadd, 1) := by decide +kernel
theorem dX5_step_12 : decode cX5_step 12 = .ok (.iaload, 1) := by decide +kernel
theorem dX5_step_13 : decode cX5_step 13 = .ok (.istore 5, 2) := by decide +kernel
theorem dX5_step_15 : decode cX5_step 15 = .ok (.aload_n 0, 1) := by decide +kernel
theorem dX5_step_16 : decode cX5_step 16 = .ok (.getfield 41, 3) := by decide +kernel
theorem dX5_step_19 : decode cX5_step 19 = .ok (.bipush 20, 2) := by decide +kernel
theorem dX5_step_21 : decode cX5_step 21 = .ok (.aload_n 0, 1) := by decide +kernel
theorem dX5_step_22 : decode cX5_step 22 = .ok (.getfield 147, 3) := by decide +kernel
theorem dX5_step_25 : decode cX5_step 25 = .ok (.imul, 1) := by decide +kernel
theorem dX5_step_26 : decode cX5_step 26 = .ok (.iload_n 3, 1) := by decide +kernel
theorem dX5_step_27 : decode cX5_step 27 = .ok (.iadd, 1) := by decide +kernel
theorem dX5_step_28 : decode cX5_step 28 = .ok (.iaload, 1) := by decide +kernel
theorem dX5_step_29 : decode cX5_step 29 = .ok (.aload_n 0, 1) := by decide +kernel
theorem dX5_step_30 : decode cX5_step 30 = .ok (.getfield 41, 3) := by decide +kernel
theorem dX5_step_33 : decode cX5_step 33 = .ok (.bipush 20, 2) := by decide +kernel
theorem dX5_step_35 : decode cX5_step 35 = .ok (.aload_n 0, 1) := by decide +kernel
theorem dX5_step_36 : decode cX5_step 36 = .ok (.getfield 147, 3) := by decide +kernel
theorem dX5_step_39 : decode cX5_step 39 = .ok (.imul, 1) := by decide +kernel
theorem dX5_step_40 : decode cX5_step 40 = .ok (.iload_n 1, 1) := by decide +kernel
theorem dX5_step_41 : decode cX5_step 41 = .ok (.iadd, 1) := by decide +kernel
theorem dX5_step_42 : decode cX5_step 42 = .ok (.iaload, 1) := by decide +kernel
theorem dX5_step_43 : decode cX5_step 43 = .ok (.isub, 1) := by decide +kernel
theorem dX5_step_44 : decode cX5_step 44 = .ok (.istore 6, 2) := by decide +kernel
theorem dX5_step_46 : decode cX5_step 46 = .ok (.iload 5, 2) := by decide +kernel
theorem dX5_step_48 : decode cX5_step 48 = .ok (.iconst 4, 1) := by decide +kernel
theorem dX5_step_49 : decode cX5_step 49 = .ok (.aload_n 0, 1) := by decide +kernel
theorem dX5_step_50 : decode cX5_step 50 = .ok (.getfield 50, 3) := by decide +kernel
theorem dX5_step_53 : decode cX5_step 53 = .ok (.imul, 1) := by decide +kernel
theorem dX5_step_54 : decode cX5_step 54 = .ok (.iload 6, 2) := by decide +kernel
theorem dX5_step_56 : decode cX5_step 56 = .ok (.imul, 1) := by decide +kernel
theorem dX5_step_57 : decode cX5_step 57 = .ok (.if_icmp .gt 10, 3) := by decide +kernel
theorem dX5_step_60 : decode cX5_step 60 = .ok (.iload 5, 2) := by decide +kernel
theorem dX5_step_62 : decode cX5_step 62 = .ok (.iconst 4, 1) := by decide +kernel
theorem dX5_step_63 : decode cX5_step 63 = .ok (.idiv, 1) := by decide +kernel
theorem dX5_step_64 : decode cX5_step 64 = .ok (.goto 5, 3) := by decide +kernel
theorem dX5_step_67 : decode cX5_step 67 = .ok (.ldc 108, 2) := by decide +kernel
theorem dX5_step_69 : decode cX5_step 69 = .ok (.ireturn, 1) := by decide +kernel
theorem dX5_behind_0 : decode cX5_behind 0 = .ok (.aload_n 0, 1) := by decide +kernel
theorem dX5_behind_1 : decode cX5_behind 1 = .ok (.getfield 47, 3) := by decide +kernel
theorem dX5_behind_4 : decode cX5_behind 4 = .ok (.aload_n 0, 1) := by decide +kernel
theorem dX5_behind_5 : decode cX5_behind 5 = .ok (.getfield 147, 3) := by decide +kernel
theorem dX5_behind_8 : decode cX5_behind 8 = .ok (.iaload, 1) := by decide +kernel
theorem dX5_behind_9 : decode cX5_behind 9 = .ok (.istore 6, 2) := by decide +kernel
theorem dX5_behind_11 : decode cX5_behind 11 = .ok (.iload 4, 2) := by decide +kernel
theorem dX5_behind_13 : decode cX5_behind 13 = .ok (.ifCond .lt 15, 3) := by decide +kernel
theorem dX5_behind_16 : decode cX5_behind 16 = .ok (.iload_n 2, 1) := by decide +kernel
theorem dX5_behind_17 : decode cX5_behind 17 = .ok (.iload 4, 2) := by decide +kernel
theorem dX5_behind_19 : decode cX5_behind 19 = .ok (.if_icmp .ne 13, 3) := by decide +kernel
theorem dX5_behind_22 : decode cX5_behind 22 = .ok (.iload_n 3, 1) := by decide +kernel
theorem dX5_behind_23 : decode cX5_behind 23 = .ok (.iload 5, 2) := by decide +kernel
theorem dX5_behind_25 : decode cX5_behind 25 = .ok (.if_icmp .ne 7, 3) := by decide +kernel
theorem dX5_behind_28 : decode cX5_behind 28 = .ok (.iconst 1, 1) := by decide +kernel
theorem dX5_behind_29 : decode cX5_behind 29 = .ok (.goto 4, 3) := by decide +kernel
theorem dX5_behind_32 : decode cX5_behind 32 = .ok (.iconst 0, 1) := by decide +kernel
theorem dX5_behind_33 : decode cX5_behind 33 = .ok (.istore 7, 2) := by decide +kernel
theorem dX5_behind_35 : decode cX5_behind 35 = .ok (.iload 7, 2) := by decide +kernel
theorem dX5_behind_37 : decode cX5_behind 37 = .ok (.ifCond .eq 15, 3) := by decide +kernel
theorem dX5_behind_40 : decode cX5_behind 40 = .ok (.aload_n 0, 1) := by decide +kernel
theorem dX5_behind_41 : decode cX5_behind 41 = .ok (.getfield 54, 3) := by decide +kernel
theorem dX5_behind_44 : decode cX5_behind 44 = .ok (.iload 6, 2) := by decide +kernel
theorem dX5_behind_46 : decode cX5_behind 46 = .ok (.iload_n 1, 1) := by decide +kernel
theorem dX5_behind_47 : decode cX5_behind 47 = .ok (.isub, 1) := by decide +kernel
theorem dX5_behind_48 : decode cX5_behind 48 = .ok (.imul, 1) := by decide +kernel
theorem dX5_behind_49 : decode cX5_behind 49 = .ok (.goto 5, 3) := by decide +kernel
theorem dX5_behind_52 : decode cX5_behind 52 = .ok (.ldc 108, 2) := by decide +kernel
theorem dX5_behind_54 : decode cX5_behind 54 = .ok (.istore 8, 2) := by decide +kernel
theorem dX5_behind_56 : decode cX5_behind 56 = .ok (.iload_n 1, 1) := by decide +kernel
theorem dX5_behind_57 : decode cX5_behind 57 = .ok (.istore 9, 2) := by decide +kernel
theorem dX5_behind_59 : decode cX5_behind 59 = .ok (.iload 9, 2) := by decide +kernel
theorem dX5_behind_61 : decode cX5_behind 61 = .ok (.iload 6, 2) := by decide +kernel
theorem dX5_behind_63 : decode cX5_behind 63 = .ok (.if_icmp .ge 123, 3) := by decide +kernel
theorem dX5_behind_66 : decode cX5_behind 66 = .ok (.iconst 0, 1) := by decide +kernel
theorem dX5_behind_67 : decode cX5_behind 67 = .ok (.istore 10, 2) := by decide +kernel
theorem dX5_behind_69 : decode cX5_behind 69 = .ok (.iload 10, 2) := by decide +kernel
theorem dX5_behind_71 : decode cX5_behind 71 = .ok (.aload_n 0, 1) := by decide +kernel
theorem dX5_behind_72 : decode cX5_behind 72 = .ok (.getfield 75, 3) := by decide +kernel
theorem dX5_behind_75 : decode cX5_behind 75 = .ok (.iload 9, 2) := by decide +kernel
theorem dX5_behind_77 : decode cX5_behind 77 = .ok (.iaload, 1) := by decide +kernel
theorem dX5_behind_78 : decode cX5_behind 78 = .ok (.if_icmp .ge 102, 3) := by decide +kernel
theorem dX5_behind_81 : decode cX5_behind 81 = .ok (.aload_n 0, 1) := by decide +kernel
theorem dX5_behind_82 : decode cX5_behind 82 = .ok (.getfield 78, 3) := by decide +kernel
theorem dX5_behind_85 : decode cX5_behind 85 = .ok (.bipush 10, 2) := by decide +kernel
theorem dX5_behind_87 : decode cX5_behind 87 = .ok (.iload 9, 2) := by decide +kernel
theorem dX5_behind_89 : decode cX5_behind 89 = .ok (.imul, 1) := by decide +kernel
theorem dX5_behind_90 : decode cX5_behind 90 = .ok (.iload 10, 2) := by decide +kernel
theorem dX5_behind_92 : decode cX5_behind 92 = .ok (.iadd, 1) := by decide +kernel
theorem dX5_behind_93 : decode cX5_behind 93 = .ok (.iaload, 1) := by decide +kernel
theorem dX5_behind_94 : decode cX5_behind 94 = .ok (.istore 11, 2) := by decide +kernel
theorem dX5_behind_96 : decode cX5_behind 96 = .ok (.iload_n 2, 1) := by decide +kernel
theorem dX5_behind_97 : decode cX5_behind 97 = .ok (.ifCond .ge 7, 3) := by decide +kernel
theorem dX5_behind_100 : decode cX5_behind 100 = .ok (.iconst 0, 1) := by decide +kernel
theorem dX5_behind_101 : decode cX5_behind 101 = .ok (.goto 24, 3) := by decide +kernel
theorem dX5_behind_104 : decode cX5_behind 104 = .ok (.aload_n 0, 1) := by decide +kernel
theorem dX5_behind_105 : decode cX5_behind 105 = .ok (.iload_n 2, 1) := by decide +kernel
theorem dX5_behind_106 : decode cX5_behind 106 = .ok (.iload_n 3, 1) := by decide +kernel
theorem dX5_behind_107 : decode cX5_behind 107 = .ok (.iload 9, 2) := by decide +kernel
theorem dX5_behind_109 : decode cX5_behind 109 = .ok (.aload_n 0, 1) := by decide +kernel
theorem dX5_behind_110 : decode cX5_behind 110 = .ok (.getfield 72, 3) := by decide +kernel
theorem dX5_behind_113 : decode cX5_behind 113 = .ok (.bipush 10, 2) := by decide +kernel
theorem dX5_behind_115 : decode cX5_behind 115 = .ok (.iload 9, 2) := by decide +kernel
theorem dX5_behind_117 : decode cX5_behind 117 = .ok (.imul, 1) := by decide +kernel
theorem dX5_behind_118 : decode cX5_behind 118 = .ok (.iload 10, 2) := by decide +kernel
theorem dX5_behind_120 : decode cX5_behind 120 = .ok (.iadd, 1) := by decide +kernel
theorem dX5_behind_121 : decode cX5_behind 121 = .ok (.iaload, 1) := by decide +kernel
theorem dX5_behind_122 : decode cX5_behind 122 = .ok (.invokevirtual 161, 3) := by decide +kernel
theorem dX5_behind_125 : decode cX5_behind 125 = .ok (.istore 12, 2) := by decide +kernel
theorem dX5_behind_127 : decode cX5_behind 127 = .ok (.iload 11, 2) := by decide +kernel
theorem dX5_behind_129 : decode cX5_behind 129 = .ok (.ldc 108, 2) := by decide +kernel
theorem dX5_behind_131 : decode cX5_behind 131 = .ok (.if_icmp .ge 43, 3) := by decide +kernel
theorem dX5_behind_134 : decode cX5_behind 134 = .ok (.iload 12, 2) := by decide +kernel
theorem dX5_behind_136 : decode cX5_behind 136 = .ok (.ldc 108, 2) := by decide +kernel
theorem dX5_behind_138 : decode cX5_behind 138 = .ok (.if_icmp .ge 36, 3) := by decide +kernel
theorem dX5_behind_141 : decode cX5_behind 141 = .ok (.aload_n 0, 1) := by decide +kernel
theorem dX5_behind_142 : decode cX5_behind 142 = .ok (.getfield 54, 3) := by decide +kernel
theorem dX5_behind_145 : decode cX5_behind 145 = .ok (.iload 9, 2) := by decide +kernel
theorem dX5_behind_147 : decode cX5_behind 147 = .ok (.iload_n 1, 1) := by decide +kernel
theorem dX5_behind_148 : decode cX5_behind 148 = .ok (.isub, 1) := by decide +kernel
theorem dX5_behind_149 : decode cX5_behind 149 = .ok (.imul, 1) := by decide +kernel
theorem dX5_behind_150 : decode cX5_behind 150 = .ok (.iload 12, 2) := by decide +kernel
theorem dX5_behind_152 : decode cX5_behind 152 = .ok (.iadd, 1) := by decide +kernel
theorem dX5_behind_153 : decode cX5_behind 153 = .ok (.iload 11, 2) := by decide +kernel
theorem dX5_behind_155 : decode cX5_behind 155 = .ok (.iadd, 1) := by decide +kernel
theorem dX5_behind_156 : decode cX5_behind 156 = .ok (.istore 13, 2) := by decide +kernel
theorem dX5_behind_158 : decode cX5_behind 158 = .ok (.iload 13, 2) := by decide +kernel
theorem dX5_behind_160 : decode cX5_behind 160 = .ok (.iload 8, 2) := by decide +kernel
theorem dX5_behind_162 : decode cX5_behind 162 = .ok (.if_icmp .ge 8, 3) := by decide +kernel
theorem dX5_behind_165 : decode cX5_behind 165 = .ok (.iload 13, 2) := by decide +kernel
theorem dX5_behind_167 : decode cX5_behind 167 = .ok (.goto 5, 3) := by decide +kernel
theorem dX5_behind_170 : decode cX5_behind 170 = .ok (.iload 8, 2) := by decide +kernel
theorem dX5_behind_172 : decode cX5_behind 172 = .ok (.istore 8, 2) := by decide +kernel
theorem dX5_behind_174 : decode cX5_behind 174 = .ok (.iinc 10 1, 3) := by decide +kernel
theorem dX5_behind_177 : decode cX5_behind 177 = .ok (.goto (-108), 3) := by decide +kernel
theorem dX5_behind_180 : decode cX5_behind 180 = .ok (.iinc 9 1, 3) := by decide +kernel
theorem dX5_behind_183 : decode cX5_behind 183 = .ok (.goto (-124), 3) := by decide +kernel
theorem dX5_behind_186 : decode cX5_behind 186 = .ok (.iload 8, 2) := by decide +kernel
theorem dX5_behind_188 : decode cX5_behind 188 = .ok (.ireturn, 1) := by decide +kernel
theorem dX5_findRow_0 : decode cX5_findRow 0 = .ok (.aload_n 0, 1) := by decide +kernel
theorem dX5_findRow_1 : decode cX5_findRow 1 = .ok (.getfield 47, 3) := by decide +kernel
theorem dX5_findRow_4 : decode cX5_findRow 4 = .ok (.aload_n 0, 1) := by decide +kernel
theorem dX5_findRow_5 : decode cX5_findRow 5 = .ok (.getfield 147, 3) := by decide +kernel
theorem dX5_findRow_8 : decode cX5_findRow 8 = .ok (.iaload, 1) := by decide +kernel
theorem dX5_findRow_9 : decode cX5_findRow 9 = .ok (.istore_n 3, 1) := by decide +kernel
theorem dX5_findRow_10 : decode cX5_findRow 10 = .ok (.iload_n 3, 1) := by decide +kernel
theorem dX5_findRow_11 : decode cX5_findRow 11 = .ok (.iconst 1, 1) := by decide +kernel
theorem dX5_findRow_12 : decode cX5_findRow 12 = .ok (.isub, 1) := by decide +kernel
theorem dX5_findRow_13 : decode cX5_findRow 13 = .ok (.istore 4, 2) := by decide +kernel
theorem dX5_findRow_15 : decode cX5_findRow 15 = .ok (.iload 4, 2) := by decide +kernel
theorem dX5_findRow_17 : decode cX5_findRow 17 = .ok (.ifCond .lt 140, 3) := by decide +kernel
theorem dX5_findRow_20 : decode cX5_findRow 20 = .ok (.iconst 0, 1) := by decide +kernel
theorem dX5_findRow_21 : decode cX5_findRow 21 = .ok (.istore 5, 2) := by decide +kernel
theorem dX5_findRow_23 : decode cX5_findRow 23 = .ok (.iload 5, 2) := by decide +kernel
theorem dX5_findRow_25 : decode cX5_findRow 25 = .ok (.aload_n 0, 1) := by decide +kernel
theorem dX5_findRow_26 : decode cX5_findRow 26 = .ok (.getfield 75, 3) := by decide +kernel
theorem dX5_findRow_29 : decode cX5_findRow 29 = .ok (.iload 4, 2) := by decide +kernel
theorem dX5_findRow_31 : decode cX5_findRow 31 = .ok (.iaload, 1) := by decide +kernel
theorem dX5_findRow_32 : decode cX5_findRow 32 = .ok (.if_icmp .ge 119, 3) := by decide +kernel
theorem dX5_findRow_35 : decode cX5_findRow 35 = .ok (.aload_n 0, 1) := by decide +kernel
theorem dX5_findRow_36 : decode cX5_findRow 36 = .ok (.getfield 72, 3) := by decide +kernel
theorem dX5_findRow_39 : decode cX5_findRow 39 = .ok (.bipush 10, 2) := by decide +kernel
theorem dX5_findRow_41 : decode cX5_findRow 41 = .ok (.iload 4, 2) := by decide +kernel
theorem dX5_findRow_43 : decode cX5_findRow 43 = .ok (.imul, 1) := by decide +kernel
theorem dX5_findRow_44 : decode cX5_findRow 44 = .ok (.iload 5, 2) := by decide +kernel
theorem dX5_findRow_46 : decode cX5_findRow 46 = .ok (.iadd, 1) := by decide +kernel
theorem dX5_findRow_47 : decode cX5_findRow 47 = .ok (.iaload, 1) := by decide +kernel
theorem dX5_findRow_48 : decode cX5_findRow 48 = .ok (.istore 6, 2) := by decide +kernel
theorem dX5_findRow_50 : decode cX5_findRow 50 = .ok (.iload_n 1, 1) := by decide +kernel
theorem dX5_findRow_51 : decode cX5_findRow 51 = .ok (.ifCond .lt 21, 3) := by decide +kernel
theorem dX5_findRow_54 : decode cX5_findRow 54 = .ok (.iload 4, 2) := by decide +kernel
theorem dX5_findRow_56 : decode cX5_findRow 56 = .ok (.iload_n 1, 1) := by decide +kernel
theorem dX5_findRow_57 : decode cX5_findRow 57 = .ok (.if_icmp .lt 15, 3) := by decide +kernel
theorem dX5_findRow_60 : decode cX5_findRow 60 = .ok (.iload 4, 2) := by decide +kernel
theorem dX5_findRow_62 : decode cX5_findRow 62 = .ok (.iload_n 1, 1) := by decide +kernel
theorem dX5_findRow_63 : decode cX5_findRow 63 = .ok (.if_icmp .ne 13, 3) := by decide +kernel
theorem dX5_findRow_66 : decode cX5_findRow 66 = .ok (.iload 6, 2) := by decide +kernel
theorem dX5_findRow_68 : decode cX5_findRow 68 = .ok (.iload_n 2, 1) := by decide +kernel
theorem dX5_findRow_69 : decode cX5_findRow 69 = .ok (.if_icmp .ne 7, 3) := by decide +kernel
theorem dX5_findRow_72 : decode cX5_findRow 72 = .ok (.iconst 1, 1) := by decide +kernel
theorem dX5_findRow_73 : decode cX5_findRow 73 = .ok (.goto 4, 3) := by decide +kernel
theorem dX5_findRow_76 : decode cX5_findRow 76 = .ok (.iconst 0, 1) := by decide +kernel
theorem dX5_findRow_77 : decode cX5_findRow 77 = .ok (.istore 7, 2) := by decide +kernel
theorem dX5_findRow_79 : decode cX5_findRow 79 = .ok (.iload 7, 2) := by decide +kernel
theorem dX5_findRow_81 : decode cX5_findRow 81 = .ok (.ifCond .eq 20, 3) := by decide +kernel
theorem dX5_findRow_84 : decode cX5_findRow 84 = .ok (.aload_n 0, 1) := by decide +kernel
theorem dX5_findRow_85 : decode cX5_findRow 85 = .ok (.iload 4, 2) := by decide +kernel
theorem dX5_findRow_87 : decode cX5_findRow 87 = .ok (.iconst 1, 1) := by decide +kernel
theorem dX5_findRow_88 : decode cX5_findRow 88 = .ok (.iadd, 1) := by decide +kernel
theorem dX5_findRow_89 : decode cX5_findRow 89 = .ok (.iload 4, 2) := by decide +kernel
theorem dX5_findRow_91 : decode cX5_findRow 91 = .ok (.iload 6, 2) := by decide +kernel
theorem dX5_findRow_93 : decode cX5_findRow 93 = .ok (.iload_n 1, 1) := by decide +kernel
theorem dX5_findRow_94 : decode cX5_findRow 94 = .ok (.iload_n 2, 1) := by decide +kernel
theorem dX5_findRow_95 : decode cX5_findRow 95 = .ok (.invokevirtual 165, 3) := by decide +kernel
theorem dX5_findRow_98 : decode cX5_findRow 98 = .ok (.goto 5, 3) := by decide +kernel
theorem dX5_findRow_101 : decode cX5_findRow 101 = .ok (.ldc 108, 2) := by decide +kernel
theorem dX5_findRow_103 : decode cX5_findRow 103 = .ok (.istore 8, 2) := by decide +kernel
theorem dX5_findRow_105 : decode cX5_findRow 105 = .ok (.aload_n 0, 1) := by decide +kernel
theorem dX5_findRow_106 : decode cX5_findRow 106 = .ok (.getfield 78, 3) := by decide +kernel
theorem dX5_findRow_109 : decode cX5_findRow 109 = .ok (.bipush 10, 2) := by decide +kernel
theorem dX5_findRow_111 : decode cX5_findRow 111 = .ok (.iload 4, 2) := by decide +kernel
theorem dX5_findRow_113 : decode cX5_findRow 113 = .ok (.imul, 1) := by decide +kernel
theorem dX5_findRow_114 : decode cX5_findRow 114 = .ok (.iload 5, 2) := by decide +kernel
theorem dX5_findRow_116 : decode cX5_findRow 116 = .ok (.iadd, 1) := by decide +kernel
theorem dX5_findRow_117 : decode cX5_findRow 117 = .ok (.iload 8, 2) := by decide +kernel
theorem dX5_findRow_119 : decode cX5_findRow 119 = .ok (.ldc 108, 2) := by decide +kernel
theorem dX5_findRow_121 : decode cX5_findRow 121 = .ok (.if_icmp .ge 21, 3) := by decide +kernel
theorem dX5_findRow_124 : decode cX5_findRow 124 = .ok (.aload_n 0, 1) := by decide +kernel
theorem dX5_findRow_125 : decode cX5_findRow 125 = .ok (.aload_n 0, 1) := by decide +kernel
theorem dX5_findRow_126 : decode cX5_findRow 126 = .ok (.getfield 147, 3) := by decide +kernel
theorem dX5_findRow_129 : decode cX5_findRow 129 = .ok (.iload 4, 2) := by decide +kernel
theorem dX5_findRow_131 : decode cX5_findRow 131 = .ok (.iload 6, 2) := by decide +kernel
theorem dX5_findRow_133 : decode cX5_findRow 133 = .ok (.invokevirtual 150, 3) := by decide +kernel
theorem dX5_findRow_136 : decode cX5_findRow 136 = .ok (.iload 8, 2) := by decide +kernel
theorem dX5_findRow_138 : decode cX5_findRow 138 = .ok (.iadd, 1) := by decide +kernel
theorem dX5_findRow_139 : decode cX5_findRow 139 = .ok (.goto 5, 3) := by decide +kernel
theorem dX5_findRow_142 : decode cX5_findRow 142 = .ok (.ldc 108, 2) := by decide +kernel
theorem dX5_findRow_144 : decode cX5_findRow 144 = .ok (.iastore, 1) := by decide +kernel
theorem dX5_findRow_145 : decode cX5_findRow 145 = .ok (.iinc 5 1, 3) := by decide +kernel
theorem dX5_findRow_148 : decode cX5_findRow 148 = .ok (.goto (-125), 3) := by decide +kernel
theorem dX5_findRow_151 : decode cX5_findRow 151 = .ok (.iinc 4 (-1), 3) := by decide +kernel
theorem dX5_findRow_154 : decode cX5_findRow 154 = .ok (.goto (-139), 3) := by decide +kernel
theorem dX5_findRow_157 : decode cX5_findRow 157 = .ok (.aload_n 0, 1) := by decide +kernel
theorem dX5_findRow_158 : decode cX5_findRow 158 = .ok (.aload_n 0, 1) := by decide +kernel
theorem dX5_findRow_159 : decode cX5_findRow 159 = .ok (.iconst 0, 1) := by decide +kernel
theorem dX5_findRow_160 : decode cX5_findRow 160 = .ok (.iconst (-1), 1) := by decide +kernel
theorem dX5_findRow_161 : decode cX5_findRow 161 = .ok (.iconst (-1), 1) := by decide +kernel
theorem dX5_findRow_162 : decode cX5_findRow 162 = .ok (.iload_n 1, 1) := by decide +kernel
theorem dX5_findRow_163 : decode cX5_findRow 163 = .ok (.iload_n 2, 1) := by decide +kernel
theorem dX5_findRow_164 : decode cX5_findRow 164 = .ok (.invokevirtual 165, 3) := by decide +kernel
theorem dX5_findRow_167 : decode cX5_findRow 167 = .ok (.putfield 169, 3) := by decide +kernel
theorem dX5_findRow_170 : decode cX5_findRow 170 = .ok (.iconst (-1), 1) := by decide +kernel
theorem dX5_findRow_171 : decode cX5_findRow 171 = .ok (.istore 4, 2) := by decide +kernel
theorem dX5_findRow_173 : decode cX5_findRow 173 = .ok (.iconst (-1), 1) := by decide +kernel
theorem dX5_findRow_174 : decode cX5_findRow 174 = .ok (.istore 5, 2) := by decide +kernel
theorem dX5_findRow_176 : decode cX5_findRow 176 = .ok (.aload_n 0, 1) := by decide +kernel
theorem dX5_findRow_177 : decode cX5_findRow 177 = .ok (.getfield 169, 3) := by decide +kernel
theorem dX5_findRow_180 : decode cX5_findRow 180 = .ok (.istore 6, 2) := by decide +kernel
theorem dX5_findRow_182 : decode cX5_findRow 182 = .ok (.iconst 0, 1) := by decide +kernel
theorem dX5_findRow_183 : decode cX5_findRow 183 = .ok (.istore 7, 2) := by decide +kernel
theorem dX5_findRow_185 : decode cX5_findRow 185 = .ok (.iload 7, 2) := by decide +kernel
theorem dX5_findRow_187 : decode cX5_findRow 187 = .ok (.iload_n 3, 1) := by decide +kernel
theorem dX5_findRow_188 : decode cX5_findRow 188 = .ok (.if_icmp .ge 209, 3) := by decide +kernel
theorem dX5_findRow_191 : decode cX5_findRow 191 = .ok (.aload_n 0, 1) := by decide +kernel
theorem dX5_findRow_192 : decode cX5_findRow 192 = .ok (.getfield 81, 3) := by decide +kernel
theorem dX5_findRow_195 : decode cX5_findRow 195 = .ok (.iload 7, 2) := by decide +kernel
theorem dX5_findRow_197 : decode cX5_findRow 197 = .ok (.bipush (-5), 2) := by decide +kernel
theorem dX5_findRow_199 : decode cX5_findRow 199 = .ok (.iastore, 1) := by decide +kernel
theorem dX5_findRow_200 : decode cX5_findRow 200 = .ok (.iconst 0, 1) := by decide +kernel
theorem dX5_findRow_201 : decode cX5_findRow 201 = .ok (.istore 8, 2) := by decide +kernel
theorem dX5_findRow_203 : decode cX5_findRow 203 = .ok (.iload 8, 2) := by decide +kernel
theorem dX5_findRow_205 : decode cX5_findRow 205 = .ok (.aload_n 0, 1) := by decide +kernel
theorem dX5_findRow_206 : decode cX5_findRow 206 = .ok (.getfield 75, 3) := by decide +kernel
theorem dX5_findRow_209 : decode cX5_findRow 209 = .ok (.iload 7, 2) := by decide +kernel
theorem dX5_findRow_211 : decode cX5_findRow 211 = .ok (.iaload, 1) := by decide +kernel
theorem dX5_findRow_212 : decode cX5_findRow 212 = .ok (.if_icmp .ge 142, 3) := by decide +kernel
theorem dX5_findRow_215 : decode cX5_findRow 215 = .ok (.aload_n 0, 1) := by decide +kernel
theorem dX5_findRow_216 : decode cX5_findRow 216 = .ok (.getfield 81, 3) := by decide +kernel
theorem dX5_findRow_219 : decode cX5_findRow 219 = .ok (.iload 7, 2) := by decide +kernel
theorem dX5_findRow_221 : decode cX5_findRow 221 = .ok (.iaload, 1) := by decide +kernel
theorem dX5_findRow_222 : decode cX5_findRow 222 = .ok (.bipush (-5), 2) := by decide +kernel
theorem dX5_findRow_224 : decode cX5_findRow 224 = .ok (.if_icmp .ne 130, 3) := by decide +kernel
theorem dX5_findRow_227 : decode cX5_findRow 227 = .ok (.aload_n 0, 1) := by decide +kernel
theorem dX5_findRow_228 : decode cX5_findRow 228 = .ok (.getfield 72, 3) := by decide +kernel
theorem dX5_findRow_231 : decode cX5_findRow 231 = .ok (.bipush 10, 2) := by decide +kernel
theorem dX5_findRow_233 : decode cX5_findRow 233 = .ok (.iload 7, 2) := by decide +kernel
theorem dX5_findRow_235 : decode cX5_findRow 235 = .ok (.imul, 1) := by decide +kernel
theorem dX5_findRow_236 : decode cX5_findRow 236 = .ok (.iload 8, 2) := by decide +kernel
theorem dX5_findRow_238 : decode cX5_findRow 238 = .ok (.iadd, 1) := by decide +kernel
theorem dX5_findRow_239 : decode cX5_findRow 239 = .ok (.iaload, 1) := by decide +kernel
theorem dX5_findRow_240 : decode cX5_findRow 240 = .ok (.istore 9, 2) := by decide +kernel
theorem dX5_findRow_242 : decode cX5_findRow 242 = .ok (.iload 4, 2) := by decide +kernel
theorem dX5_findRow_244 : decode cX5_findRow 244 = .ok (.ifCond .ge 7, 3) := by decide +kernel
theorem dX5_findRow_247 : decode cX5_findRow 247 = .ok (.iconst 0, 1) := by decide +kernel
theorem dX5_findRow_248 : decode cX5_findRow 248 = .ok (.goto 15, 3) := by decide +kernel
theorem dX5_findRow_251 : decode cX5_findRow 251 = .ok (.aload_n 0, 1) := by decide +kernel
theorem dX5_findRow_252 : decode cX5_findRow 252 = .ok (.iload 4, 2) := by decide +kernel
theorem dX5_findRow_254 : decode cX5_findRow 254 = .ok (.iload 5, 2) := by decide +kernel
theorem dX5_findRow_256 : decode cX5_findRow 256 = .ok (.iload 7, 2) := by decide +kernel
theorem dX5_findRow_258 : decode cX5_findRow 258 = .ok (.iload 9, 2) := by decide +kernel
theorem dX5_findRow_260 : decode cX5_findRow 260 = .ok (.invokevirtual 161, 3) := by decide +kernel
theorem dX5_findRow_263 : decode cX5_findRow 263 = .ok (.istore 10, 2) := by decide +kernel
theorem dX5_findRow_265 : decode cX5_findRow 265 = .ok (.aload_n 0, 1) := by decide +kernel
theorem dX5_findRow_266 : decode cX5_findRow 266 = .ok (.getfield 78, 3) := by decide +kernel
theorem dX5_findRow_269 : decode cX5_findRow 269 = .ok (.bipush 10, 2) := by decide +kernel
theorem dX5_findRow_271 : decode cX5_findRow 271 = .ok (.iload 7, 2) := by decide +kernel
theorem dX5_findRow_273 : decode cX5_findRow 273 = .ok (.imul, 1) := by decide +kernel
theorem dX5_findRow_274 : decode cX5_findRow 274 = .ok (.iload 8, 2) := by decide +kernel
theorem dX5_findRow_276 : decode cX5_findRow 276 = .ok (.iadd, 1) := by decide +kernel
theorem dX5_findRow_277 : decode cX5_findRow 277 = .ok (.iaload, 1) := by decide +kernel
theorem dX5_findRow_278 : decode cX5_findRow 278 = .ok (.ldc 108, 2) := by decide +kernel
theorem dX5_findRow_280 : decode cX5_findRow 280 = .ok (.if_icmp .ge 68, 3) := by decide +kernel
theorem dX5_findRow_283 : decode cX5_findRow 283 = .ok (.iload 10, 2) := by decide +kernel
theorem dX5_findRow_285 : decode cX5_findRow 285 = .ok (.ldc 108, 2) := by decide +kernel
theorem dX5_findRow_287 : decode cX5_findRow 287 = .ok (.if_icmp .ge 61, 3) := by decide +kernel
theorem dX5_findRow_290 : decode cX5_findRow 290 = .ok (.iload 10, 2) := by decide +kernel
theorem dX5_findRow_292 : decode cX5_findRow 292 = .ok (.aload_n 0, 1) := by decide +kernel
theorem dX5_findRow_293 : decode cX5_findRow 293 = .ok (.getfield 78, 3) := by decide +kernel
theorem dX5_findRow_296 : decode cX5_findRow 296 = .ok (.bipush 10, 2) := by decide +kernel
theorem dX5_findRow_298 : decode cX5_findRow 298 = .ok (.iload 7, 2) := by decide +kernel
theorem dX5_findRow_300 : decode cX5_findRow 300 = .ok (.imul, 1) := by decide +kernel
theorem dX5_findRow_301 : decode cX5_findRow 301 = .ok (.iload 8, 2) := by decide +kernel
theorem dX5_findRow_303 : decode cX5_findRow 303 = .ok (.iadd, 1) := by decide +kernel
theorem dX5_findRow_304 : decode cX5_findRow 304 = .ok (.iaload, 1) := by decide +kernel
theorem dX5_findRow_305 : decode cX5_findRow 305 = .ok (.iadd, 1) := by decide +kernel
theorem dX5_findRow_306 : decode cX5_findRow 306 = .ok (.iload 6, 2) := by decide +kernel
theorem dX5_findRow_308 : decode cX5_findRow 308 = .ok (.if_icmp .ne 40, 3) := by decide +kernel
theorem dX5_findRow_311 : decode cX5_findRow 311 = .ok (.aload_n 0, 1) := by decide +kernel
theorem dX5_findRow_312 : decode cX5_findRow 312 = .ok (.getfield 81, 3) := by decide +kernel
theorem dX5_findRow_315 : decode cX5_findRow 315 = .ok (.iload 7, 2) := by decide +kernel
theorem dX5_findRow_317 : decode cX5_findRow 317 = .ok (.iload 9, 2) := by decide +kernel
theorem dX5_findRow_319 : decode cX5_findRow 319 = .ok (.iastore, 1) := by decide +kernel
theorem dX5_findRow_320 : decode cX5_findRow 320 = .ok (.aload_n 0, 1) := by decide +kernel
theorem dX5_findRow_321 : decode cX5_findRow 321 = .ok (.getfield 78, 3) := by decide +kernel
theorem dX5_findRow_324 : decode cX5_findRow 324 = .ok (.bipush 10, 2) := by decide +kernel
theorem dX5_findRow_326 : decode cX5_findRow 326 = .ok (.iload 7, 2) := by decide +kernel
theorem dX5_findRow_328 : decode cX5_findRow 328 = .ok (.imul, 1) := by decide +kernel
theorem dX5_findRow_329 : decode cX5_findRow 329 = .ok (.iload 8, 2) := by decide +kernel
theorem dX5_findRow_331 : decode cX5_findRow 331 = .ok (.iadd, 1) := by decide +kernel
theorem dX5_findRow_332 : decode cX5_findRow 332 = .ok (.iaload, 1) := by decide +kernel
theorem dX5_findRow_333 : decode cX5_findRow 333 = .ok (.aload_n 0, 1) := by decide +kernel
theorem dX5_findRow_334 : decode cX5_findRow 334 = .ok (.aload_n 0, 1) := by decide +kernel
theorem dX5_findRow_335 : decode cX5_findRow 335 = .ok (.getfield 147, 3) := by decide +kernel
theorem dX5_findRow_338 : decode cX5_findRow 338 = .ok (.iload 7, 2) := by decide +kernel
theorem dX5_findRow_340 : decode cX5_findRow 340 = .ok (.iload 9, 2) := by decide +kernel
theorem dX5_findRow_342 : decode cX5_findRow 342 = .ok (.invokevirtual 150, 3) := by decide +kernel
theorem dX5_findRow_345 : decode cX5_findRow 345 = .ok (.isub, 1) := by decide +kernel
theorem dX5_findRow_346 : decode cX5_findRow 346 = .ok (.istore 6, 2) := by decide +kernel
theorem dX5_findRow_348 : decode cX5_findRow 348 = .ok (.iinc 8 1, 3) := by decide +kernel
theorem dX5_findRow_351 : decode cX5_findRow 351 = .ok (.goto (-148), 3) := by decide +kernel
theorem dX5_findRow_354 : decode cX5_findRow 354 = .ok (.aload_n 0, 1) := by decide +kernel
theorem dX5_findRow_355 : decode cX5_findRow 355 = .ok (.getfield 81, 3) := by decide +kernel
theorem dX5_findRow_358 : decode cX5_findRow 358 = .ok (.iload 7, 2) := by decide +kernel
theorem dX5_findRow_360 : decode cX5_findRow 360 = .ok (.iaload, 1) := by decide +kernel
theorem dX5_findRow_361 : decode cX5_findRow 361 = .ok (.bipush (-5), 2) := by decide +kernel
theorem dX5_findRow_363 : decode cX5_findRow 363 = .ok (.if_icmp .ne 15, 3) := by decide +kernel
theorem dX5_findRow_366 : decode cX5_findRow 366 = .ok (.iload 6, 2) := by decide +kernel
theorem dX5_findRow_368 : decode cX5_findRow 368 = .ok (.aload_n 0, 1) := by decide +kernel
theorem dX5_findRow_369 : decode cX5_findRow 369 = .ok (.getfield 54, 3) := by decide +kernel
theorem dX5_findRow_372 : decode cX5_findRow 372 = .ok (.isub, 1) := by decide +kernel
theorem dX5_findRow_373 : decode cX5_findRow 373 = .ok (.istore 6, 2) := by decide +kernel
theorem dX5_findRow_375 : decode cX5_findRow 375 = .ok (.goto 16, 3) := by decide +kernel
theorem dX5_findRow_378 : decode cX5_findRow 378 = .ok (.iload 7, 2) := by decide +kernel
theorem dX5_findRow_380 : decode cX5_findRow 380 = .ok (.istore 4, 2) := by decide +kernel
theorem dX5_findRow_382 : decode cX5_findRow 382 = .ok (.aload_n 0, 1) := by decide +kernel
theorem dX5_findRow_383 : decode cX5_findRow 383 = .ok (.getfield 81, 3) := by decide +kernel
theorem dX5_findRow_386 : decode cX5_findRow 386 = .ok (.iload 7, 2) := by decide +kernel
theorem dX5_findRow_388 : decode cX5_findRow 388 = .ok (.iaload, 1) := by decide +kernel
theorem dX5_findRow_389 : decode cX5_findRow 389 = .ok (.istore 5, 2) := by decide +kernel
theorem dX5_findRow_391 : decode cX5_findRow 391 = .ok (.iinc 7 1, 3) := by decide +kernel
theorem dX5_findRow_394 : decode cX5_findRow 394 = .ok (.goto (-209), 3) := by decide +kernel
theorem dX5_findRow_397 : decode cX5_findRow 397 = .ok (.return_, 1) := by decide +kernel
theorem dX5_lay_0 : decode cX5_lay 0 = .ok (.aload_n 0, 1) := by decide +kernel
theorem dX5_lay_1 : decode cX5_lay 1 = .ok (.invokevirtual 138, 3) := by decide +kernel
theorem dX5_lay_4 : decode cX5_lay 4 = .ok (.aload_n 0, 1) := by decide +kernel
theorem dX5_lay_5 : decode cX5_lay 5 = .ok (.iload_n 1, 1) := by decide +kernel
theorem dX5_lay_6 : decode cX5_lay 6 = .ok (.invokevirtual 158, 3) := by decide +kernel
theorem dX5_lay_9 : decode cX5_lay 9 = .ok (.aload_n 0, 1) := by decide +kernel
theorem dX5_lay_10 : decode cX5_lay 10 = .ok (.iconst (-1), 1) := by decide +kernel
theorem dX5_lay_11 : decode cX5_lay 11 = .ok (.iconst (-1), 1) := by decide +kernel
theorem dX5_lay_12 : decode cX5_lay 12 = .ok (.invokevirtual 172, 3) := by decide +kernel
theorem dX5_lay_15 : decode cX5_lay 15 = .ok (.return_, 1) := by decide +kernel
theorem dX5_cost_0 : decode cX5_cost 0 = .ok (.aload_n 0, 1) := by decide +kernel
theorem dX5_cost_1 : decode cX5_cost 1 = .ok (.iload_n 1, 1) := by decide +kernel
theorem dX5_cost_2 : decode cX5_cost 2 = .ok (.invokevirtual 144, 3) := by decide +kernel
theorem dX5_cost_5 : decode cX5_cost 5 = .ok (.ifCond .ne 5, 3) := by decide +kernel
theorem dX5_cost_8 : decode cX5_cost 8 = .ok (.iconst (-1), 1) := by decide +kernel
theorem dX5_cost_9 : decode cX5_cost 9 = .ok (.ireturn, 1) := by decide +kernel
theorem dX5_cost_10 : decode cX5_cost 10 = .ok (.aload_n 0, 1) := by decide +kernel
theorem dX5_cost_11 : decode cX5_cost 11 = .ok (.iload_n 1, 1) := by decide +kernel
theorem dX5_cost_12 : decode cX5_cost 12 = .ok (.invokevirtual 175, 3) := by decide +kernel
theorem dX5_cost_15 : decode cX5_cost 15 = .ok (.aload_n 0, 1) := by decide +kernel
theorem dX5_cost_16 : decode cX5_cost 16 = .ok (.getfield 169, 3) := by decide +kernel
theorem dX5_cost_19 : decode cX5_cost 19 = .ok (.ireturn, 1) := by decide +kernel
theorem dX5_laid_0 : decode cX5_laid 0 = .ok (.aload_n 0, 1) := by decide +kernel
theorem dX5_laid_1 : decode cX5_laid 1 = .ok (.iload_n 1, 1) := by decide +kernel
theorem dX5_laid_2 : decode cX5_laid 2 = .ok (.iload_n 2, 1) := by decide +kernel
theorem dX5_laid_3 : decode cX5_laid 3 = .ok (.invokevirtual 154, 3) := by decide +kernel
theorem dX5_laid_6 : decode cX5_laid 6 = .ok (.ifCond .ne 5, 3) := by decide +kernel
theorem dX5_laid_9 : decode cX5_laid 9 = .ok (.iconst (-1), 1) := by decide +kernel
theorem dX5_laid_10 : decode cX5_laid 10 = .ok (.ireturn, 1) := by decide +kernel
theorem dX5_laid_11 : decode cX5_laid 11 = .ok (.aload_n 0, 1) := by decide +kernel
theorem dX5_laid_12 : decode cX5_laid 12 = .ok (.iload_n 1, 1) := by decide +kernel
theorem dX5_laid_13 : decode cX5_laid 13 = .ok (.invokevirtual 175, 3) := by decide +kernel
theorem dX5_laid_16 : decode cX5_laid 16 = .ok (.aload_n 0, 1) := by decide +kernel
theorem dX5_laid_17 : decode cX5_laid 17 = .ok (.getfield 81, 3) := by decide +kernel
theorem dX5_laid_20 : decode cX5_laid 20 = .ok (.iload_n 2, 1) := by decide +kernel
theorem dX5_laid_21 : decode cX5_laid 21 = .ok (.iaload, 1) := by decide +kernel
theorem dX5_laid_22 : decode cX5_laid 22 = .ok (.ireturn, 1) := by decide +kernel
theorem dX5_isSpot_0 : decode cX5_isSpot 0 = .ok (.iload_n 2, 1) := by decide +kernel
theorem dX5_isSpot_1 : decode cX5_isSpot 1 = .ok (.bipush (-5), 2) := by decide +kernel
theorem dX5_isSpot_3 : decode cX5_isSpot 3 = .ok (.if_icmp .ne 7, 3) := by decide +kernel
theorem dX5_isSpot_6 : decode cX5_isSpot 6 = .ok (.iconst 1, 1) := by decide +kernel
theorem dX5_isSpot_7 : decode cX5_isSpot 7 = .ok (.goto 4, 3) := by decide +kernel
theorem dX5_isSpot_10 : decode cX5_isSpot 10 = .ok (.iconst 0, 1) := by decide +kernel
theorem dX5_isSpot_11 : decode cX5_isSpot 11 = .ok (.istore_n 3, 1) := by decide +kernel
theorem dX5_isSpot_12 : decode cX5_isSpot 12 = .ok (.iconst 0, 1) := by decide +kernel
theorem dX5_isSpot_13 : decode cX5_isSpot 13 = .ok (.istore 4, 2) := by decide +kernel
theorem dX5_isSpot_15 : decode cX5_isSpot 15 = .ok (.iload 4, 2) := by decide +kernel
theorem dX5_isSpot_17 : decode cX5_isSpot 17 = .ok (.aload_n 0, 1) := by decide +kernel
theorem dX5_isSpot_18 : decode cX5_isSpot 18 = .ok (.getfield 75, 3) := by decide +kernel
theorem dX5_isSpot_21 : decode cX5_isSpot 21 = .ok (.iload_n 1, 1) := by decide +kernel
theorem dX5_isSpot_22 : decode cX5_isSpot 22 = .ok (.iaload, 1) := by decide +kernel
theorem dX5_isSpot_23 : decode cX5_isSpot 23 = .ok (.if_icmp .ge 35, 3) := by decide +kernel
theorem dX5_isSpot_26 : decode cX5_isSpot 26 = .ok (.iload_n 3, 1) := by decide +kernel
theorem dX5_isSpot_27 : decode cX5_isSpot 27 = .ok (.ifCond .ne 19, 3) := by decide +kernel
theorem dX5_isSpot_30 : decode cX5_isSpot 30 = .ok (.aload_n 0, 1) := by decide +kernel
theorem dX5_isSpot_31 : decode cX5_isSpot 31 = .ok (.getfield 72, 3) := by decide +kernel
theorem dX5_isSpot_34 : decode cX5_isSpot 34 = .ok (.bipush 10, 2) := by decide +kernel
theorem dX5_isSpot_36 : decode cX5_isSpot 36 = .ok (.iload_n 1, 1) := by decide +kernel
theorem dX5_isSpot_37 : decode cX5_isSpot 37 = .ok (.imul, 1) := by decide +kernel
theorem dX5_isSpot_38 : decode cX5_isSpot 38 = .ok (.iload 4, 2) := by decide +kernel
theorem dX5_isSpot_40 : decode cX5_isSpot 40 = .ok (.iadd, 1) := by decide +kernel
theorem dX5_isSpot_41 : decode cX5_isSpot 41 = .ok (.iaload, 1) := by decide +kernel
theorem dX5_isSpot_42 : decode cX5_isSpot 42 = .ok (.iload_n 2, 1) := by decide +kernel
theorem dX5_isSpot_43 : decode cX5_isSpot 43 = .ok (.if_icmp .ne 7, 3) := by decide +kernel
theorem dX5_isSpot_46 : decode cX5_isSpot 46 = .ok (.iconst 1, 1) := by decide +kernel
theorem dX5_isSpot_47 : decode cX5_isSpot 47 = .ok (.goto 4, 3) := by decide +kernel
theorem dX5_isSpot_50 : decode cX5_isSpot 50 = .ok (.iconst 0, 1) := by decide +kernel
theorem dX5_isSpot_51 : decode cX5_isSpot 51 = .ok (.istore_n 3, 1) := by decide +kernel
theorem dX5_isSpot_52 : decode cX5_isSpot 52 = .ok (.iinc 4 1, 3) := by decide +kernel
theorem dX5_isSpot_55 : decode cX5_isSpot 55 = .ok (.goto (-40), 3) := by decide +kernel
theorem dX5_isSpot_58 : decode cX5_isSpot 58 = .ok (.iload_n 3, 1) := by decide +kernel
theorem dX5_isSpot_59 : decode cX5_isSpot 59 = .ok (.ireturn, 1) := by decide +kernel
theorem dX5_check_0 : decode cX5_check 0 = .ok (.aload_n 0, 1) := by decide +kernel
theorem dX5_check_1 : decode cX5_check 1 = .ok (.iload_n 1, 1) := by decide +kernel
theorem dX5_check_2 : decode cX5_check 2 = .ok (.invokevirtual 144, 3) := by decide +kernel
theorem dX5_check_5 : decode cX5_check 5 = .ok (.ifCond .ne 5, 3) := by decide +kernel
theorem dX5_check_8 : decode cX5_check 8 = .ok (.iconst (-1), 1) := by decide +kernel
theorem dX5_check_9 : decode cX5_check 9 = .ok (.ireturn, 1) := by decide +kernel
theorem dX5_check_10 : decode cX5_check 10 = .ok (.aload_n 0, 1) := by decide +kernel
theorem dX5_check_11 : decode cX5_check 11 = .ok (.getfield 178, 3) := by decide +kernel
theorem dX5_check_14 : decode cX5_check 14 = .ok (.istore_n 2, 1) := by decide +kernel
theorem dX5_check_15 : decode cX5_check 15 = .ok (.aload_n 0, 1) := by decide +kernel
theorem dX5_check_16 : decode cX5_check 16 = .ok (.iconst 0, 1) := by decide +kernel
theorem dX5_check_17 : decode cX5_check 17 = .ok (.putfield 178, 3) := by decide +kernel
theorem dX5_check_20 : decode cX5_check 20 = .ok (.aload_n 0, 1) := by decide +kernel
theorem dX5_check_21 : decode cX5_check 21 = .ok (.invokevirtual 138, 3) := by decide +kernel
theorem dX5_check_24 : decode cX5_check 24 = .ok (.aload_n 0, 1) := by decide +kernel
theorem dX5_check_25 : decode cX5_check 25 = .ok (.iload_n 1, 1) := by decide +kernel
theorem dX5_check_26 : decode cX5_check 26 = .ok (.invokevirtual 158, 3) := by decide +kernel
theorem dX5_check_29 : decode cX5_check 29 = .ok (.iload_n 2, 1) := by decide +kernel
theorem dX5_check_30 : decode cX5_check 30 = .ok (.aload_n 0, 1) := by decide +kernel
theorem dX5_check_31 : decode cX5_check 31 = .ok (.getfield 47, 3) := by decide +kernel
theorem dX5_check_34 : decode cX5_check 34 = .ok (.iload_n 1, 1) := by decide +kernel
theorem dX5_check_35 : decode cX5_check 35 = .ok (.iaload, 1) := by decide +kernel
theorem dX5_check_36 : decode cX5_check 36 = .ok (.if_icmp .ne 7, 3) := by decide +kernel
theorem dX5_check_39 : decode cX5_check 39 = .ok (.iconst 1, 1) := by decide +kernel
theorem dX5_check_40 : decode cX5_check 40 = .ok (.goto 4, 3) := by decide +kernel
theorem dX5_check_43 : decode cX5_check 43 = .ok (.iconst 0, 1) := by decide +kernel
theorem dX5_check_44 : decode cX5_check 44 = .ok (.istore_n 3, 1) := by decide +kernel
theorem dX5_check_45 : decode cX5_check 45 = .ok (.iconst 0, 1) := by decide +kernel
theorem dX5_check_46 : decode cX5_check 46 = .ok (.istore 4, 2) := by decide +kernel
theorem dX5_check_48 : decode cX5_check 48 = .ok (.iload 4, 2) := by decide +kernel
theorem dX5_check_50 : decode cX5_check 50 = .ok (.iload_n 2, 1) := by decide +kernel
theorem dX5_check_51 : decode cX5_check 51 = .ok (.if_icmp .ge 27, 3) := by decide +kernel
theorem dX5_check_54 : decode cX5_check 54 = .ok (.iload_n 3, 1) := by decide +kernel
theorem dX5_check_55 : decode cX5_check 55 = .ok (.ifCond .eq 23, 3) := by decide +kernel
theorem dX5_check_58 : decode cX5_check 58 = .ok (.aload_n 0, 1) := by decide +kernel
theorem dX5_check_59 : decode cX5_check 59 = .ok (.iload 4, 2) := by decide +kernel
theorem dX5_check_61 : decode cX5_check 61 = .ok (.aload_n 0, 1) := by decide +kernel
theorem dX5_check_62 : decode cX5_check 62 = .ok (.getfield 57, 3) := by decide +kernel
theorem dX5_check_65 : decode cX5_check 65 = .ok (.iload 4, 2) := by decide +kernel
theorem dX5_check_67 : decode cX5_check 67 = .ok (.iaload, 1) := by decide +kernel
theorem dX5_check_68 : decode cX5_check 68 = .ok (.invokevirtual 181, 3) := by decide +kernel
theorem dX5_check_71 : decode cX5_check 71 = .ok (.istore_n 3, 1) := by decide +kernel
theorem dX5_check_72 : decode cX5_check 72 = .ok (.iinc 4 1, 3) := by decide +kernel
theorem dX5_check_75 : decode cX5_check 75 = .ok (.goto (-27), 3) := by decide +kernel
theorem dX5_check_78 : decode cX5_check 78 = .ok (.iload_n 3, 1) := by decide +kernel
theorem dX5_check_79 : decode cX5_check 79 = .ok (.ifCond .ne 6, 3) := by decide +kernel
theorem dX5_check_82 : decode cX5_check 82 = .ok (.bipush (-3), 2) := by decide +kernel
theorem dX5_check_84 : decode cX5_check 84 = .ok (.ireturn, 1) := by decide +kernel
theorem dX5_check_85 : decode cX5_check 85 = .ok (.iconst 0, 1) := by decide +kernel
theorem dX5_check_86 : decode cX5_check 86 = .ok (.istore 4, 2) := by decide +kernel
theorem dX5_check_88 : decode cX5_check 88 = .ok (.iconst (-1), 1) := by decide +kernel
theorem dX5_check_89 : decode cX5_check 89 = .ok (.istore 5, 2) := by decide +kernel
theorem dX5_check_91 : decode cX5_check 91 = .ok (.iconst 0, 1) := by decide +kernel
theorem dX5_check_92 : decode cX5_check 92 = .ok (.istore 6, 2) := by decide +kernel
theorem dX5_check_94 : decode cX5_check 94 = .ok (.iload 6, 2) := by decide +kernel
theorem dX5_check_96 : decode cX5_check 96 = .ok (.iload_n 2, 1) := by decide +kernel
theorem dX5_check_97 : decode cX5_check 97 = .ok (.if_icmp .ge 102, 3) := by decide +kernel
theorem dX5_check_100 : decode cX5_check 100 = .ok (.aload_n 0, 1) := by decide +kernel
theorem dX5_check_101 : decode cX5_check 101 = .ok (.getfield 57, 3) := by decide +kernel
theorem dX5_check_104 : decode cX5_check 104 = .ok (.iload 6, 2) := by decide +kernel
theorem dX5_check_106 : decode cX5_check 106 = .ok (.iaload, 1) := by decide +kernel
theorem dX5_check_107 : decode cX5_check 107 = .ok (.bipush (-5), 2) := by decide +kernel
theorem dX5_check_109 : decode cX5_check 109 = .ok (.if_icmp .ne 15, 3) := by decide +kernel
theorem dX5_check_112 : decode cX5_check 112 = .ok (.iload 4, 2) := by decide +kernel
theorem dX5_check_114 : decode cX5_check 114 = .ok (.aload_n 0, 1) := by decide +kernel
theorem dX5_check_115 : decode cX5_check 115 = .ok (.getfield 54, 3) := by decide +kernel
theorem dX5_check_118 : decode cX5_check 118 = .ok (.iadd, 1) := by decide +kernel
theorem dX5_check_119 : decode cX5_check 119 = .ok (.istore 4, 2) := by decide +kernel
theorem dX5_check_121 : decode cX5_check 121 = .ok (.goto 72, 3) := by decide +kernel
theorem dX5_check_124 : decode cX5_check 124 = .ok (.iload 5, 2) := by decide +kernel
theorem dX5_check_126 : decode cX5_check 126 = .ok (.ifCond .ge 7, 3) := by decide +kernel
theorem dX5_check_129 : decode cX5_check 129 = .ok (.iconst 0, 1) := by decide +kernel
theorem dX5_check_130 : decode cX5_check 130 = .ok (.goto 25, 3) := by decide +kernel
theorem dX5_check_133 : decode cX5_check 133 = .ok (.aload_n 0, 1) := by decide +kernel
theorem dX5_check_134 : decode cX5_check 134 = .ok (.iload 5, 2) := by decide +kernel
theorem dX5_check_136 : decode cX5_check 136 = .ok (.aload_n 0, 1) := by decide +kernel
theorem dX5_check_137 : decode cX5_check 137 = .ok (.getfield 57, 3) := by decide +kernel
theorem dX5_check_140 : decode cX5_check 140 = .ok (.iload 5, 2) := by decide +kernel
theorem dX5_check_142 : decode cX5_check 142 = .ok (.iaload, 1) := by decide +kernel
theorem dX5_check_143 : decode cX5_check 143 = .ok (.iload 6, 2) := by decide +kernel
theorem dX5_check_145 : decode cX5_check 145 = .ok (.aload_n 0, 1) := by decide +kernel
theorem dX5_check_146 : decode cX5_check 146 = .ok (.getfield 57, 3) := by decide +kernel
theorem dX5_check_149 : decode cX5_check 149 = .ok (.iload 6, 2) := by decide +kernel
theorem dX5_check_151 : decode cX5_check 151 = .ok (.iaload, 1) := by decide +kernel
theorem dX5_check_152 : decode cX5_check 152 = .ok (.invokevirtual 161, 3) := by decide +kernel
theorem dX5_check_155 : decode cX5_check 155 = .ok (.istore 7, 2) := by decide +kernel
theorem dX5_check_157 : decode cX5_check 157 = .ok (.iload 7, 2) := by decide +kernel
theorem dX5_check_159 : decode cX5_check 159 = .ok (.ldc 108, 2) := by decide +kernel
theorem dX5_check_161 : decode cX5_check 161 = .ok (.if_icmp .lt 6, 3) := by decide +kernel
theorem dX5_check_164 : decode cX5_check 164 = .ok (.bipush (-4), 2) := by decide +kernel
theorem dX5_check_166 : decode cX5_check 166 = .ok (.ireturn, 1) := by decide +kernel
theorem dX5_check_167 : decode cX5_check 167 = .ok (.iload 4, 2) := by decide +kernel
theorem dX5_check_169 : decode cX5_check 169 = .ok (.iload 7, 2) := by decide +kernel
theorem dX5_check_171 : decode cX5_check 171 = .ok (.aload_n 0, 1) := by decide +kernel
theorem dX5_check_172 : decode cX5_check 172 = .ok (.iload_n 1, 1) := by decide +kernel
theorem dX5_check_173 : decode cX5_check 173 = .ok (.iload 6, 2) := by decide +kernel
theorem dX5_check_175 : decode cX5_check 175 = .ok (.aload_n 0, 1) := by decide +kernel
theorem dX5_check_176 : decode cX5_check 176 = .ok (.getfield 57, 3) := by decide +kernel
theorem dX5_check_179 : decode cX5_check 179 = .ok (.iload 6, 2) := by decide +kernel
theorem dX5_check_181 : decode cX5_check 181 = .ok (.iaload, 1) := by decide +kernel
theorem dX5_check_182 : decode cX5_check 182 = .ok (.invokevirtual 150, 3) := by decide +kernel
theorem dX5_check_185 : decode cX5_check 185 = .ok (.iadd, 1) := by decide +kernel
theorem dX5_check_186 : decode cX5_check 186 = .ok (.iadd, 1) := by decide +kernel
theorem dX5_check_187 : decode cX5_check 187 = .ok (.istore 4, 2) := by decide +kernel
theorem dX5_check_189 : decode cX5_check 189 = .ok (.iload 6, 2) := by decide +kernel
theorem dX5_check_191 : decode cX5_check 191 = .ok (.istore 5, 2) := by decide +kernel
theorem dX5_check_193 : decode cX5_check 193 = .ok (.iinc 6 1, 3) := by decide +kernel
theorem dX5_check_196 : decode cX5_check 196 = .ok (.goto (-102), 3) := by decide +kernel
theorem dX5_check_199 : decode cX5_check 199 = .ok (.iload 4, 2) := by decide +kernel
theorem dX5_check_201 : decode cX5_check 201 = .ok (.ireturn, 1) := by decide +kernel
theorem dX5_list_0 : decode cX5_list 0 = .ok (.iload_n 1, 1) := by decide +kernel
theorem dX5_list_1 : decode cX5_list 1 = .ok (.bipush (-5), 2) := by decide +kernel
theorem dX5_list_3 : decode cX5_list 3 = .ok (.if_icmp .eq 13, 3) := by decide +kernel
theorem dX5_list_6 : decode cX5_list 6 = .ok (.aload_n 0, 1) := by decide +kernel
theorem dX5_list_7 : decode cX5_list 7 = .ok (.iload_n 1, 1) := by decide +kernel
theorem dX5_list_8 : decode cX5_list 8 = .ok (.invokevirtual 135, 3) := by decide +kernel
theorem dX5_list_11 : decode cX5_list 11 = .ok (.ifCond .ne 5, 3) := by decide +kernel
theorem dX5_list_14 : decode cX5_list 14 = .ok (.iconst (-1), 1) := by decide +kernel
theorem dX5_list_15 : decode cX5_list 15 = .ok (.ireturn, 1) := by decide +kernel
theorem dX5_list_16 : decode cX5_list 16 = .ok (.aload_n 0, 1) := by decide +kernel
theorem dX5_list_17 : decode cX5_list 17 = .ok (.getfield 178, 3) := by decide +kernel
theorem dX5_list_20 : decode cX5_list 20 = .ok (.bipush 20, 2) := by decide +kernel
theorem dX5_list_22 : decode cX5_list 22 = .ok (.if_icmp .ne 6, 3) := by decide +kernel
theorem dX5_list_25 : decode cX5_list 25 = .ok (.bipush (-2), 2) := by decide +kernel
theorem dX5_list_27 : decode cX5_list 27 = .ok (.ireturn, 1) := by decide +kernel
theorem dX5_list_28 : decode cX5_list 28 = .ok (.aload_n 0, 1) := by decide +kernel
theorem dX5_list_29 : decode cX5_list 29 = .ok (.getfield 57, 3) := by decide +kernel
theorem dX5_list_32 : decode cX5_list 32 = .ok (.aload_n 0, 1) := by decide +kernel
theorem dX5_list_33 : decode cX5_list 33 = .ok (.getfield 178, 3) := by decide +kernel
theorem dX5_list_36 : decode cX5_list 36 = .ok (.iload_n 1, 1) := by decide +kernel
theorem dX5_list_37 : decode cX5_list 37 = .ok (.iastore, 1) := by decide +kernel
theorem dX5_list_38 : decode cX5_list 38 = .ok (.aload_n 0, 1) := by decide +kernel
theorem dX5_list_39 : decode cX5_list 39 = .ok (.dup, 1) := by decide +kernel
theorem dX5_list_40 : decode cX5_list 40 = .ok (.getfield 178, 3) := by decide +kernel
theorem dX5_list_43 : decode cX5_list 43 = .ok (.iconst 1, 1) := by decide +kernel
theorem dX5_list_44 : decode cX5_list 44 = .ok (.iadd, 1) := by decide +kernel
theorem dX5_list_45 : decode cX5_list 45 = .ok (.putfield 178, 3) := by decide +kernel
theorem dX5_list_48 : decode cX5_list 48 = .ok (.aload_n 0, 1) := by decide +kernel
theorem dX5_list_49 : decode cX5_list 49 = .ok (.getfield 178, 3) := by decide +kernel
theorem dX5_list_52 : decode cX5_list 52 = .ok (.ireturn, 1) := by decide +kernel
theorem dX5_alike_0 : decode cX5_alike 0 = .ok (.iconst 0, 1) := by decide +kernel
theorem dX5_alike_1 : decode cX5_alike 1 = .ok (.istore_n 3, 1) := by decide +kernel
theorem dX5_alike_2 : decode cX5_alike 2 = .ok (.iload_n 3, 1) := by decide +kernel
theorem dX5_alike_3 : decode cX5_alike 3 = .ok (.iload_n 1, 1) := by decide +kernel
theorem dX5_alike_4 : decode cX5_alike 4 = .ok (.if_icmp .ge 40, 3) := by decide +kernel
theorem dX5_alike_7 : decode cX5_alike 7 = .ok (.iload_n 2, 1) := by decide +kernel
theorem dX5_alike_8 : decode cX5_alike 8 = .ok (.ifCond .ne 18, 3) := by decide +kernel
theorem dX5_alike_11 : decode cX5_alike 11 = .ok (.aload_n 0, 1) := by decide +kernel
theorem dX5_alike_12 : decode cX5_alike 12 = .ok (.getfield 81, 3) := by decide +kernel
theorem dX5_alike_15 : decode cX5_alike 15 = .ok (.iload_n 3, 1) := by decide +kernel
theorem dX5_alike_16 : decode cX5_alike 16 = .ok (.iaload, 1) := by decide +kernel
theorem dX5_alike_17 : decode cX5_alike 17 = .ok (.aload_n 0, 1) := by decide +kernel
theorem dX5_alike_18 : decode cX5_alike 18 = .ok (.getfield 84, 3) := by decide +kernel
theorem dX5_alike_21 : decode cX5_alike 21 = .ok (.iload_n 3, 1) := by decide +kernel
theorem dX5_alike_22 : decode cX5_alike 22 = .ok (.iaload, 1) := by decide +kernel
theorem dX5_alike_23 : decode cX5_alike 23 = .ok (.if_icmp .ne 21, 3) := by decide +kernel
theorem dX5_alike_26 : decode cX5_alike 26 = .ok (.aload_n 0, 1) := by decide +kernel
theorem dX5_alike_27 : decode cX5_alike 27 = .ok (.getfield 84, 3) := by decide +kernel
theorem dX5_alike_30 : decode cX5_alike 30 = .ok (.iload_n 3, 1) := by decide +kernel
theorem dX5_alike_31 : decode cX5_alike 31 = .ok (.aload_n 0, 1) := by decide +kernel
theorem dX5_alike_32 : decode cX5_alike 32 = .ok (.getfield 81, 3) := by decide +kernel
theorem dX5_alike_35 : decode cX5_alike 35 = .ok (.iload_n 3, 1) := by decide +kernel
theorem dX5_alike_36 : decode cX5_alike 36 = .ok (.iaload, 1) := by decide +kernel
theorem dX5_alike_37 : decode cX5_alike 37 = .ok (.iastore, 1) := by decide +kernel
theorem dX5_alike_38 : decode cX5_alike 38 = .ok (.iinc 3 1, 3) := by decide +kernel
theorem dX5_alike_41 : decode cX5_alike 41 = .ok (.goto (-39), 3) := by decide +kernel
theorem dX5_alike_44 : decode cX5_alike 44 = .ok (.iload_n 3, 1) := by decide +kernel
theorem dX5_alike_45 : decode cX5_alike 45 = .ok (.ireturn, 1) := by decide +kernel
theorem dX5_sure_0 : decode cX5_sure 0 = .ok (.aload_n 0, 1) := by decide +kernel
theorem dX5_sure_1 : decode cX5_sure 1 = .ok (.iload_n 1, 1) := by decide +kernel
theorem dX5_sure_2 : decode cX5_sure 2 = .ok (.invokevirtual 144, 3) := by decide +kernel
theorem dX5_sure_5 : decode cX5_sure 5 = .ok (.ifCond .eq 13, 3) := by decide +kernel
theorem dX5_sure_8 : decode cX5_sure 8 = .ok (.iload_n 2, 1) := by decide +kernel
theorem dX5_sure_9 : decode cX5_sure 9 = .ok (.iconst 0, 1) := by decide +kernel
theorem dX5_sure_10 : decode cX5_sure 10 = .ok (.ldc 184, 2) := by decide +kernel
theorem dX5_sure_12 : decode cX5_sure 12 = .ok (.invokestatic 87, 3) := by decide +kernel
theorem dX5_sure_15 : decode cX5_sure 15 = .ok (.ifCond .ne 5, 3) := by decide +kernel
theorem dX5_sure_18 : decode cX5_sure 18 = .ok (.iconst (-1), 1) := by decide +kernel
theorem dX5_sure_19 : decode cX5_sure 19 = .ok (.ireturn, 1) := by decide +kernel
theorem dX5_sure_20 : decode cX5_sure 20 = .ok (.aload_n 0, 1) := by decide +kernel
theorem dX5_sure_21 : decode cX5_sure 21 = .ok (.iload_n 1, 1) := by decide +kernel
theorem dX5_sure_22 : decode cX5_sure 22 = .ok (.invokevirtual 175, 3) := by decide +kernel
theorem dX5_sure_25 : decode cX5_sure 25 = .ok (.aload_n 0, 1) := by decide +kernel
theorem dX5_sure_26 : decode cX5_sure 26 = .ok (.getfield 169, 3) := by decide +kernel
theorem dX5_sure_29 : decode cX5_sure 29 = .ok (.iload_n 2, 1) := by decide +kernel
theorem dX5_sure_30 : decode cX5_sure 30 = .ok (.iadd, 1) := by decide +kernel
theorem dX5_sure_31 : decode cX5_sure 31 = .ok (.istore_n 3, 1) := by decide +kernel
theorem dX5_sure_32 : decode cX5_sure 32 = .ok (.aload_n 0, 1) := by decide +kernel
theorem dX5_sure_33 : decode cX5_sure 33 = .ok (.getfield 47, 3) := by decide +kernel
theorem dX5_sure_36 : decode cX5_sure 36 = .ok (.iload_n 1, 1) := by decide +kernel
theorem dX5_sure_37 : decode cX5_sure 37 = .ok (.iaload, 1) := by decide +kernel
theorem dX5_sure_38 : decode cX5_sure 38 = .ok (.istore 4, 2) := by decide +kernel
theorem dX5_sure_40 : decode cX5_sure 40 = .ok (.iload 4, 2) := by decide +kernel
theorem dX5_sure_42 : decode cX5_sure 42 = .ok (.istore 5, 2) := by decide +kernel
theorem dX5_sure_44 : decode cX5_sure 44 = .ok (.iconst 1, 1) := by decide +kernel
theorem dX5_sure_45 : decode cX5_sure 45 = .ok (.istore 6, 2) := by decide +kernel
theorem dX5_sure_47 : decode cX5_sure 47 = .ok (.aload_n 0, 1) := by decide +kernel
theorem dX5_sure_48 : decode cX5_sure 48 = .ok (.getfield 54, 3) := by decide +kernel
theorem dX5_sure_51 : decode cX5_sure 51 = .ok (.iload 4, 2) := by decide +kernel
theorem dX5_sure_53 : decode cX5_sure 53 = .ok (.imul, 1) := by decide +kernel
theorem dX5_sure_54 : decode cX5_sure 54 = .ok (.iload_n 3, 1) := by decide +kernel
theorem dX5_sure_55 : decode cX5_sure 55 = .ok (.if_icmp .gt 40, 3) := by decide +kernel
theorem dX5_sure_58 : decode cX5_sure 58 = .ok (.iconst 0, 1) := by decide +kernel
theorem dX5_sure_59 : decode cX5_sure 59 = .ok (.istore 7, 2) := by decide +kernel
theorem dX5_sure_61 : decode cX5_sure 61 = .ok (.iload 7, 2) := by decide +kernel
theorem dX5_sure_63 : decode cX5_sure 63 = .ok (.iload 4, 2) := by decide +kernel
theorem dX5_sure_65 : decode cX5_sure 65 = .ok (.if_icmp .ge 18, 3) := by decide +kernel
theorem dX5_sure_68 : decode cX5_sure 68 = .ok (.aload_n 0, 1) := by decide +kernel
theorem dX5_sure_69 : decode cX5_sure 69 = .ok (.getfield 81, 3) := by decide +kernel
theorem dX5_sure_72 : decode cX5_sure 72 = .ok (.iload 7, 2) := by decide +kernel
theorem dX5_sure_74 : decode cX5_sure 74 = .ok (.bipush (-5), 2) := by decide +kernel
theorem dX5_sure_76 : decode cX5_sure 76 = .ok (.iastore, 1) := by decide +kernel
theorem dX5_sure_77 : decode cX5_sure 77 = .ok (.iinc 7 1, 3) := by decide +kernel
theorem dX5_sure_80 : decode cX5_sure 80 = .ok (.goto (-19), 3) := by decide +kernel
theorem dX5_sure_83 : decode cX5_sure 83 = .ok (.aload_n 0, 1) := by decide +kernel
theorem dX5_sure_84 : decode cX5_sure 84 = .ok (.iload 5, 2) := by decide +kernel
theorem dX5_sure_86 : decode cX5_sure 86 = .ok (.iconst 1, 1) := by decide +kernel
theorem dX5_sure_87 : decode cX5_sure 87 = .ok (.invokevirtual 185, 3) := by decide +kernel
theorem dX5_sure_90 : decode cX5_sure 90 = .ok (.istore 5, 2) := by decide +kernel
theorem dX5_sure_92 : decode cX5_sure 92 = .ok (.iconst 0, 1) := by decide +kernel
theorem dX5_sure_93 : decode cX5_sure 93 = .ok (.istore 6, 2) := by decide +kernel
theorem dX5_sure_95 : decode cX5_sure 95 = .ok (.iconst 0, 1) := by decide +kernel
theorem dX5_sure_96 : decode cX5_sure 96 = .ok (.istore 7, 2) := by decide +kernel
theorem dX5_sure_98 : decode cX5_sure 98 = .ok (.iload 7, 2) := by decide +kernel
theorem dX5_sure_100 : decode cX5_sure 100 = .ok (.iload 4, 2) := by decide +kernel
theorem dX5_sure_102 : decode cX5_sure 102 = .ok (.if_icmp .ge 70, 3) := by decide +kernel
theorem dX5_sure_105 : decode cX5_sure 105 = .ok (.iconst 0, 1) := by decide +kernel
theorem dX5_sure_106 : decode cX5_sure 106 = .ok (.istore 8, 2) := by decide +kernel
theorem dX5_sure_108 : decode cX5_sure 108 = .ok (.iload 8, 2) := by decide +kernel
theorem dX5_sure_110 : decode cX5_sure 110 = .ok (.aload_n 0, 1) := by decide +kernel
theorem dX5_sure_111 : decode cX5_sure 111 = .ok (.getfield 75, 3) := by decide +kernel
theorem dX5_sure_114 : decode cX5_sure 114 = .ok (.iload 7, 2) := by decide +kernel
theorem dX5_sure_116 : decode cX5_sure 116 = .ok (.iaload, 1) := by decide +kernel
theorem dX5_sure_117 : decode cX5_sure 117 = .ok (.if_icmp .ge 49, 3) := by decide +kernel
theorem dX5_sure_120 : decode cX5_sure 120 = .ok (.aload_n 0, 1) := by decide +kernel
theorem dX5_sure_121 : decode cX5_sure 121 = .ok (.iload 7, 2) := by decide +kernel
theorem dX5_sure_123 : decode cX5_sure 123 = .ok (.aload_n 0, 1) := by decide +kernel
theorem dX5_sure_124 : decode cX5_sure 124 = .ok (.getfield 72, 3) := by decide +kernel
theorem dX5_sure_127 : decode cX5_sure 127 = .ok (.bipush 10, 2) := by decide +kernel
theorem dX5_sure_129 : decode cX5_sure 129 = .ok (.iload 7, 2) := by decide +kernel
theorem dX5_sure_131 : decode cX5_sure 131 = .ok (.imul, 1) := by decide +kernel
theorem dX5_sure_132 : decode cX5_sure 132 = .ok (.iload 8, 2) := by decide +kernel
theorem dX5_sure_134 : decode cX5_sure 134 = .ok (.iadd, 1) := by decide +kernel
theorem dX5_sure_135 : decode cX5_sure 135 = .ok (.iaload, 1) := by decide +kernel
theorem dX5_sure_136 : decode cX5_sure 136 = .ok (.invokevirtual 172, 3) := by decide +kernel
theorem dX5_sure_139 : decode cX5_sure 139 = .ok (.aload_n 0, 1) := by decide +kernel
theorem dX5_sure_140 : decode cX5_sure 140 = .ok (.getfield 169, 3) := by decide +kernel
theorem dX5_sure_143 : decode cX5_sure 143 = .ok (.iload_n 3, 1) := by decide +kernel
theorem dX5_sure_144 : decode cX5_sure 144 = .ok (.if_icmp .gt 16, 3) := by decide +kernel
theorem dX5_sure_147 : decode cX5_sure 147 = .ok (.aload_n 0, 1) := by decide +kernel
theorem dX5_sure_148 : decode cX5_sure 148 = .ok (.iload 5, 2) := by decide +kernel
theorem dX5_sure_150 : decode cX5_sure 150 = .ok (.iload 6, 2) := by decide +kernel
theorem dX5_sure_152 : decode cX5_sure 152 = .ok (.invokevirtual 185, 3) := by decide +kernel
theorem dX5_sure_155 : decode cX5_sure 155 = .ok (.istore 5, 2) := by decide +kernel
theorem dX5_sure_157 : decode cX5_sure 157 = .ok (.iconst 0, 1) := by decide +kernel
theorem dX5_sure_158 : decode cX5_sure 158 = .ok (.istore 6, 2) := by decide +kernel
theorem dX5_sure_160 : decode cX5_sure 160 = .ok (.iinc 8 1, 3) := by decide +kernel
theorem dX5_sure_163 : decode cX5_sure 163 = .ok (.goto (-55), 3) := by decide +kernel
theorem dX5_sure_166 : decode cX5_sure 166 = .ok (.iinc 7 1, 3) := by decide +kernel
theorem dX5_sure_169 : decode cX5_sure 169 = .ok (.goto (-71), 3) := by decide +kernel
theorem dX5_sure_172 : decode cX5_sure 172 = .ok (.iload 5, 2) := by decide +kernel
theorem dX5_sure_174 : decode cX5_sure 174 = .ok (.ireturn, 1) := by decide +kernel
theorem dX5_toll_0 : decode cX5_toll 0 = .ok (.aload_n 0, 1) := by decide +kernel
theorem dX5_toll_1 : decode cX5_toll 1 = .ok (.iload_n 1, 1) := by decide +kernel
theorem dX5_toll_2 : decode cX5_toll 2 = .ok (.invokevirtual 144, 3) := by decide +kernel
theorem dX5_toll_5 : decode cX5_toll 5 = .ok (.ifCond .ne 5, 3) := by decide +kernel
theorem dX5_toll_8 : decode cX5_toll 8 = .ok (.iconst (-1), 1) := by decide +kernel
theorem dX5_toll_9 : decode cX5_toll 9 = .ok (.ireturn, 1) := by decide +kernel
theorem dX5_toll_10 : decode cX5_toll 10 = .ok (.aload_n 0, 1) := by decide +kernel
theorem dX5_toll_11 : decode cX5_toll 11 = .ok (.iload_n 1, 1) := by decide +kernel
theorem dX5_toll_12 : decode cX5_toll 12 = .ok (.invokevirtual 175, 3) := by decide +kernel
theorem dX5_toll_15 : decode cX5_toll 15 = .ok (.iconst 0, 1) := by decide +kernel
theorem dX5_toll_16 : decode cX5_toll 16 = .ok (.istore_n 2, 1) := by decide +kernel
theorem dX5_toll_17 : decode cX5_toll 17 = .ok (.iconst (-1), 1) := by decide +kernel
theorem dX5_toll_18 : decode cX5_toll 18 = .ok (.istore_n 3, 1) := by decide +kernel
theorem dX5_toll_19 : decode cX5_toll 19 = .ok (.iconst 0, 1) := by decide +kernel
theorem dX5_toll_20 : decode cX5_toll 20 = .ok (.istore 4, 2) := by decide +kernel
theorem dX5_toll_22 : decode cX5_toll 22 = .ok (.iload 4, 2) := by decide +kernel
theorem dX5_toll_24 : decode cX5_toll 24 = .ok (.aload_n 0, 1) := by decide +kernel
theorem dX5_toll_25 : decode cX5_toll 25 = .ok (.getfield 47, 3) := by decide +kernel
theorem dX5_toll_28 : decode cX5_toll 28 = .ok (.iload_n 1, 1) := by decide +kernel
theorem dX5_toll_29 : decode cX5_toll 29 = .ok (.iaload, 1) := by decide +kernel
theorem dX5_toll_30 : decode cX5_toll 30 = .ok (.if_icmp .ge 58, 3) := by decide +kernel
theorem dX5_toll_33 : decode cX5_toll 33 = .ok (.aload_n 0, 1) := by decide +kernel
theorem dX5_toll_34 : decode cX5_toll 34 = .ok (.getfield 81, 3) := by decide +kernel
theorem dX5_toll_37 : decode cX5_toll 37 = .ok (.iload 4, 2) := by decide +kernel
theorem dX5_toll_39 : decode cX5_toll 39 = .ok (.iaload, 1) := by decide +kernel
theorem dX5_toll_40 : decode cX5_toll 40 = .ok (.bipush (-5), 2) := by decide +kernel
theorem dX5_toll_42 : decode cX5_toll 42 = .ok (.if_icmp .eq 40, 3) := by decide +kernel
theorem dX5_toll_45 : decode cX5_toll 45 = .ok (.iload_n 2, 1) := by decide +kernel
theorem dX5_toll_46 : decode cX5_toll 46 = .ok (.iload_n 3, 1) := by decide +kernel
theorem dX5_toll_47 : decode cX5_toll 47 = .ok (.ifCond .ge 7, 3) := by decide +kernel
theorem dX5_toll_50 : decode cX5_toll 50 = .ok (.iconst 0, 1) := by decide +kernel
theorem dX5_toll_51 : decode cX5_toll 51 = .ok (.goto 21, 3) := by decide +kernel
theorem dX5_toll_54 : decode cX5_toll 54 = .ok (.aload_n 0, 1) := by decide +kernel
theorem dX5_toll_55 : decode cX5_toll 55 = .ok (.getfield 63, 3) := by decide +kernel
theorem dX5_toll_58 : decode cX5_toll 58 = .ok (.sipush 150, 3) := by decide +kernel
theorem dX5_toll_61 : decode cX5_toll 61 = .ok (.iload_n 3, 1) := by decide +kernel
theorem dX5_toll_62 : decode cX5_toll 62 = .ok (.imul, 1) := by decide +kernel
theorem dX5_toll_63 : decode cX5_toll 63 = .ok (.aload_n 0, 1) := by decide +kernel
theorem dX5_toll_64 : decode cX5_toll 64 = .ok (.getfield 81, 3) := by decide +kernel
theorem dX5_toll_67 : decode cX5_toll 67 = .ok (.iload 4, 2) := by decide +kernel
theorem dX5_toll_69 : decode cX5_toll 69 = .ok (.iaload, 1) := by decide +kernel
theorem dX5_toll_70 : decode cX5_toll 70 = .ok (.iadd, 1) := by decide +kernel
theorem dX5_toll_71 : decode cX5_toll 71 = .ok (.iaload, 1) := by decide +kernel
theorem dX5_toll_72 : decode cX5_toll 72 = .ok (.iadd, 1) := by decide +kernel
theorem dX5_toll_73 : decode cX5_toll 73 = .ok (.istore_n 2, 1) := by decide +kernel
theorem dX5_toll_74 : decode cX5_toll 74 = .ok (.aload_n 0, 1) := by decide +kernel
theorem dX5_toll_75 : decode cX5_toll 75 = .ok (.getfield 81, 3) := by decide +kernel
theorem dX5_toll_78 : decode cX5_toll 78 = .ok (.iload 4, 2) := by decide +kernel
theorem dX5_toll_80 : decode cX5_toll 80 = .ok (.iaload, 1) := by decide +kernel
theorem dX5_toll_81 : decode cX5_toll 81 = .ok (.istore_n 3, 1) := by decide +kernel
theorem dX5_toll_82 : decode cX5_toll 82 = .ok (.iinc 4 1, 3) := by decide +kernel
theorem dX5_toll_85 : decode cX5_toll 85 = .ok (.goto (-63), 3) := by decide +kernel
theorem dX5_toll_88 : decode cX5_toll 88 = .ok (.iload_n 2, 1) := by decide +kernel
theorem dX5_toll_89 : decode cX5_toll 89 = .ok (.ireturn, 1) := by decide +kernel
theorem dX5_speed_0 : decode cX5_speed 0 = .ok (.aload_n 0, 1) := by decide +kernel
theorem dX5_speed_1 : decode cX5_speed 1 = .ok (.iload_n 1, 1) := by decide +kernel
theorem dX5_speed_2 : decode cX5_speed 2 = .ok (.iload_n 2, 1) := by decide +kernel
theorem dX5_speed_3 : decode cX5_speed 3 = .ok (.invokevirtual 154, 3) := by decide +kernel
theorem dX5_speed_6 : decode cX5_speed 6 = .ok (.ifCond .ne 5, 3) := by decide +kernel
theorem dX5_speed_9 : decode cX5_speed 9 = .ok (.iconst (-1), 1) := by decide +kernel
theorem dX5_speed_10 : decode cX5_speed 10 = .ok (.ireturn, 1) := by decide +kernel
theorem dX5_speed_11 : decode cX5_speed 11 = .ok (.aload_n 0, 1) := by decide +kernel
theorem dX5_speed_12 : decode cX5_speed 12 = .ok (.iload_n 1, 1) := by decide +kernel
theorem dX5_speed_13 : decode cX5_speed 13 = .ok (.invokevirtual 175, 3) := by decide +kernel
theorem dX5_speed_16 : decode cX5_speed 16 = .ok (.iload_n 2, 1) := by decide +kernel
theorem dX5_speed_17 : decode cX5_speed 17 = .ok (.iconst 1, 1) := by decide +kernel
theorem dX5_speed_18 : decode cX5_speed 18 = .ok (.iadd, 1) := by decide +kernel
theorem dX5_speed_19 : decode cX5_speed 19 = .ok (.istore_n 3, 1) := by decide +kernel
theorem dX5_speed_20 : decode cX5_speed 20 = .ok (.iload_n 3, 1) := by decide +kernel
theorem dX5_speed_21 : decode cX5_speed 21 = .ok (.aload_n 0, 1) := by decide +kernel
theorem dX5_speed_22 : decode cX5_speed 22 = .ok (.getfield 47, 3) := by decide +kernel
theorem dX5_speed_25 : decode cX5_speed 25 = .ok (.iload_n 1, 1) := by decide +kernel
theorem dX5_speed_26 : decode cX5_speed 26 = .ok (.iaload, 1) := by decide +kernel
theorem dX5_speed_27 : decode cX5_speed 27 = .ok (.if_icmp .ge 20, 3) := by decide +kernel
theorem dX5_speed_30 : decode cX5_speed 30 = .ok (.aload_n 0, 1) := by decide +kernel
theorem dX5_speed_31 : decode cX5_speed 31 = .ok (.getfield 81, 3) := by decide +kernel
theorem dX5_speed_34 : decode cX5_speed 34 = .ok (.iload_n 3, 1) := by decide +kernel
theorem dX5_speed_35 : decode cX5_speed 35 = .ok (.iaload, 1) := by decide +kernel
theorem dX5_speed_36 : decode cX5_speed 36 = .ok (.bipush (-5), 2) := by decide +kernel
theorem dX5_speed_38 : decode cX5_speed 38 = .ok (.if_icmp .ne 9, 3) := by decide +kernel
theorem dX5_speed_41 : decode cX5_speed 41 = .ok (.iinc 3 1, 3) := by decide +kernel
theorem dX5_speed_44 : decode cX5_speed 44 = .ok (.goto (-24), 3) := by decide +kernel
theorem dX5_speed_47 : decode cX5_speed 47 = .ok (.aload_n 0, 1) := by decide +kernel
theorem dX5_speed_48 : decode cX5_speed 48 = .ok (.getfield 81, 3) := by decide +kernel
theorem dX5_speed_51 : decode cX5_speed 51 = .ok (.iload_n 2, 1) := by decide +kernel
theorem dX5_speed_52 : decode cX5_speed 52 = .ok (.iaload, 1) := by decide +kernel
theorem dX5_speed_53 : decode cX5_speed 53 = .ok (.bipush (-5), 2) := by decide +kernel
theorem dX5_speed_55 : decode cX5_speed 55 = .ok (.if_icmp .eq 13, 3) := by decide +kernel
theorem dX5_speed_58 : decode cX5_speed 58 = .ok (.iload_n 3, 1) := by decide +kernel
theorem dX5_speed_59 : decode cX5_speed 59 = .ok (.aload_n 0, 1) := by decide +kernel
theorem dX5_speed_60 : decode cX5_speed 60 = .ok (.getfield 47, 3) := by decide +kernel
theorem dX5_speed_63 : decode cX5_speed 63 = .ok (.iload_n 1, 1) := by decide +kernel
theorem dX5_speed_64 : decode cX5_speed 64 = .ok (.iaload, 1) := by decide +kernel
theorem dX5_speed_65 : decode cX5_speed 65 = .ok (.if_icmp .lt 6, 3) := by decide +kernel
theorem dX5_speed_68 : decode cX5_speed 68 = .ok (.bipush (-3), 2) := by decide +kernel
theorem dX5_speed_70 : decode cX5_speed 70 = .ok (.ireturn, 1) := by decide +kernel
theorem dX5_speed_71 : decode cX5_speed 71 = .ok (.aload_n 0, 1) := by decide +kernel
theorem dX5_speed_72 : decode cX5_speed 72 = .ok (.getfield 60, 3) := by decide +kernel
theorem dX5_speed_75 : decode cX5_speed 75 = .ok (.sipush 150, 3) := by decide +kernel
theorem dX5_speed_78 : decode cX5_speed 78 = .ok (.aload_n 0, 1) := by decide +kernel
theorem dX5_speed_79 : decode cX5_speed 79 = .ok (.getfield 81, 3) := by decide +kernel
theorem dX5_speed_82 : decode cX5_speed 82 = .ok (.iload_n 2, 1) := by decide +kernel
theorem dX5_speed_83 : decode cX5_speed 83 = .ok (.iaload, 1) := by decide +kernel
theorem dX5_speed_84 : decode cX5_speed 84 = .ok (.imul, 1) := by decide +kernel
theorem dX5_speed_85 : decode cX5_speed 85 = .ok (.aload_n 0, 1) := by decide +kernel
theorem dX5_speed_86 : decode cX5_speed 86 = .ok (.getfield 81, 3) := by decide +kernel
theorem dX5_speed_89 : decode cX5_speed 89 = .ok (.iload_n 3, 1) := by decide +kernel
theorem dX5_speed_90 : decode cX5_speed 90 = .ok (.iaload, 1) := by decide +kernel
theorem dX5_speed_91 : decode cX5_speed 91 = .ok (.iadd, 1) := by decide +kernel
theorem dX5_speed_92 : decode cX5_speed 92 = .ok (.iaload, 1) := by decide +kernel
theorem dX5_speed_93 : decode cX5_speed 93 = .ok (.iconst 4, 1) := by decide +kernel
theorem dX5_speed_94 : decode cX5_speed 94 = .ok (.aload_n 0, 1) := by decide +kernel
theorem dX5_speed_95 : decode cX5_speed 95 = .ok (.getfield 41, 3) := by decide +kernel
theorem dX5_speed_98 : decode cX5_speed 98 = .ok (.bipush 20, 2) := by decide +kernel
theorem dX5_speed_100 : decode cX5_speed 100 = .ok (.iload_n 1, 1) := by decide +kernel
theorem dX5_speed_101 : decode cX5_speed 101 = .ok (.imul, 1) := by decide +kernel
theorem dX5_speed_102 : decode cX5_speed 102 = .ok (.iload_n 3, 1) := by decide +kernel
theorem dX5_speed_103 : decode cX5_speed 103 = .ok (.iadd, 1) := by decide +kernel
theorem dX5_speed_104 : decode cX5_speed 104 = .ok (.iaload, 1) := by decide +kernel
theorem dX5_speed_105 : decode cX5_speed 105 = .ok (.aload_n 0, 1) := by decide +kernel
theorem dX5_speed_106 : decode cX5_speed 106 = .ok (.getfield 41, 3) := by decide +kernel
theorem dX5_speed_109 : decode cX5_speed 109 = .ok (.bipush 20, 2) := by decide +kernel
theorem dX5_speed_111 : decode cX5_speed 111 = .ok (.iload_n 1, 1) := by decide +kernel
theorem dX5_speed_112 : decode cX5_speed 112 = .ok (.imul, 1) := by decide +kernel
theorem dX5_speed_113 : decode cX5_speed 113 = .ok (.iload_n 2, 1) := by decide +kernel
theorem dX5_speed_114 : decode cX5_speed 114 = .ok (.iadd, 1) := by decide +kernel
theorem dX5_speed_115 : decode cX5_speed 115 = .ok (.iaload, 1) := by decide +kernel
theorem dX5_speed_116 : decode cX5_speed 116 = .ok (.isub, 1) := by decide +kernel
theorem dX5_speed_117 : decode cX5_speed 117 = .ok (.imul, 1) := by decide +kernel
theorem dX5_speed_118 : decode cX5_speed 118 = .ok (.idiv, 1) := by decide +kernel
theorem dX5_speed_119 : decode cX5_speed 119 = .ok (.ireturn, 1) := by decide +kernel
theorem dX5_against_0 : decode cX5_against 0 = .ok (.aload_n 0, 1) := by decide +kernel
theorem dX5_against_1 : decode cX5_against 1 = .ok (.iload_n 1, 1) := by decide +kernel
theorem dX5_against_2 : decode cX5_against 2 = .ok (.invokevirtual 105, 3) := by decide +kernel
theorem dX5_against_5 : decode cX5_against 5 = .ok (.ifCond .ne 5, 3) := by decide +kernel
theorem dX5_against_8 : decode cX5_against 8 = .ok (.iconst (-1), 1) := by decide +kernel
theorem dX5_against_9 : decode cX5_against 9 = .ok (.ireturn, 1) := by decide +kernel
theorem dX5_against_10 : decode cX5_against 10 = .ok (.aload_n 0, 1) := by decide +kernel
theorem dX5_against_11 : decode cX5_against 11 = .ok (.getfield 25, 3) := by decide +kernel
theorem dX5_against_14 : decode cX5_against 14 = .ok (.iload_n 1, 1) := by decide +kernel
theorem dX5_against_15 : decode cX5_against 15 = .ok (.iaload, 1) := by decide +kernel
theorem dX5_against_16 : decode cX5_against 16 = .ok (.iconst 1, 1) := by decide +kernel
theorem dX5_against_17 : decode cX5_against 17 = .ok (.if_icmp .eq 6, 3) := by decide +kernel
theorem dX5_against_20 : decode cX5_against 20 = .ok (.bipush (-3), 2) := by decide +kernel
theorem dX5_against_22 : decode cX5_against 22 = .ok (.ireturn, 1) := by decide +kernel
theorem dX5_against_23 : decode cX5_against 23 = .ok (.iconst 0, 1) := by decide +kernel
theorem dX5_against_24 : decode cX5_against 24 = .ok (.istore_n 2, 1) := by decide +kernel
theorem dX5_against_25 : decode cX5_against 25 = .ok (.iconst 0, 1) := by decide +kernel
theorem dX5_against_26 : decode cX5_against 26 = .ok (.istore_n 3, 1) := by decide +kernel
theorem dX5_against_27 : decode cX5_against 27 = .ok (.iload_n 3, 1) := by decide +kernel
theorem dX5_against_28 : decode cX5_against 28 = .ok (.aload_n 0, 1) := by decide +kernel
theorem dX5_against_29 : decode cX5_against 29 = .ok (.getfield 141, 3) := by decide +kernel
theorem dX5_against_32 : decode cX5_against 32 = .ok (.if_icmp .ge 66, 3) := by decide +kernel
theorem dX5_against_35 : decode cX5_against 35 = .ok (.aload_n 0, 1) := by decide +kernel
theorem dX5_against_36 : decode cX5_against 36 = .ok (.getfield 25, 3) := by decide +kernel
theorem dX5_against_39 : decode cX5_against 39 = .ok (.iload_n 1, 1) := by decide +kernel
theorem dX5_against_40 : decode cX5_against 40 = .ok (.iconst 1, 1) := by decide +kernel
theorem dX5_against_41 : decode cX5_against 41 = .ok (.iastore, 1) := by decide +kernel
theorem dX5_against_42 : decode cX5_against 42 = .ok (.aload_n 0, 1) := by decide +kernel
theorem dX5_against_43 : decode cX5_against 43 = .ok (.iconst 0, 1) := by decide +kernel
theorem dX5_against_44 : decode cX5_against 44 = .ok (.putfield 101, 3) := by decide +kernel
theorem dX5_against_47 : decode cX5_against 47 = .ok (.aload_n 0, 1) := by decide +kernel
theorem dX5_against_48 : decode cX5_against 48 = .ok (.iload_n 3, 1) := by decide +kernel
theorem dX5_against_49 : decode cX5_against 49 = .ok (.invokevirtual 175, 3) := by decide +kernel
theorem dX5_against_52 : decode cX5_against 52 = .ok (.aload_n 0, 1) := by decide +kernel
theorem dX5_against_53 : decode cX5_against 53 = .ok (.getfield 169, 3) := by decide +kernel
theorem dX5_against_56 : decode cX5_against 56 = .ok (.istore 4, 2) := by decide +kernel
theorem dX5_against_58 : decode cX5_against 58 = .ok (.aload_n 0, 1) := by decide +kernel
theorem dX5_against_59 : decode cX5_against 59 = .ok (.getfield 25, 3) := by decide +kernel
theorem dX5_against_62 : decode cX5_against 62 = .ok (.iload_n 1, 1) := by decide +kernel
theorem dX5_against_63 : decode cX5_against 63 = .ok (.iconst 0, 1) := by decide +kernel
theorem dX5_against_64 : decode cX5_against 64 = .ok (.iastore, 1) := by decide +kernel
theorem dX5_against_65 : decode cX5_against 65 = .ok (.aload_n 0, 1) := by decide +kernel
theorem dX5_against_66 : decode cX5_against 66 = .ok (.iconst 0, 1) := by decide +kernel
theorem dX5_against_67 : decode cX5_against 67 = .ok (.putfield 101, 3) := by decide +kernel
theorem dX5_against_70 : decode cX5_against 70 = .ok (.aload_n 0, 1) := by decide +kernel
theorem dX5_against_71 : decode cX5_against 71 = .ok (.iload_n 3, 1) := by decide +kernel
theorem dX5_against_72 : decode cX5_against 72 = .ok (.invokevirtual 175, 3) := by decide +kernel
theorem dX5_against_75 : decode cX5_against 75 = .ok (.iload_n 2, 1) := by decide +kernel
theorem dX5_against_76 : decode cX5_against 76 = .ok (.aload_n 0, 1) := by decide +kernel
theorem dX5_against_77 : decode cX5_against 77 = .ok (.getfield 169, 3) := by decide +kernel
theorem dX5_against_80 : decode cX5_against 80 = .ok (.iload 4, 2) := by decide +kernel
theorem dX5_against_82 : decode cX5_against 82 = .ok (.if_icmp .ge 7, 3) := by decide +kernel
theorem dX5_against_85 : decode cX5_against 85 = .ok (.iconst 1, 1) := by decide +kernel
theorem dX5_against_86 : decode cX5_against 86 = .ok (.goto 4, 3) := by decide +kernel
theorem dX5_against_89 : decode cX5_against 89 = .ok (.iconst 0, 1) := by decide +kernel
theorem dX5_against_90 : decode cX5_against 90 = .ok (.iadd, 1) := by decide +kernel
theorem dX5_against_91 : decode cX5_against 91 = .ok (.istore_n 2, 1) := by decide +kernel
theorem dX5_against_92 : decode cX5_against 92 = .ok (.iinc 3 1, 3) := by decide +kernel
theorem dX5_against_95 : decode cX5_against 95 = .ok (.goto (-68), 3) := by decide +kernel
theorem dX5_against_98 : decode cX5_against 98 = .ok (.aload_n 0, 1) := by decide +kernel
theorem dX5_against_99 : decode cX5_against 99 = .ok (.getfield 25, 3) := by decide +kernel
theorem dX5_against_102 : decode cX5_against 102 = .ok (.iload_n 1, 1) := by decide +kernel
theorem dX5_against_103 : decode cX5_against 103 = .ok (.iconst 1, 1) := by decide +kernel
theorem dX5_against_104 : decode cX5_against 104 = .ok (.iastore, 1) := by decide +kernel
theorem dX5_against_105 : decode cX5_against 105 = .ok (.aload_n 0, 1) := by decide +kernel
theorem dX5_against_106 : decode cX5_against 106 = .ok (.iconst 0, 1) := by decide +kernel
theorem dX5_against_107 : decode cX5_against 107 = .ok (.putfield 101, 3) := by decide +kernel
theorem dX5_against_110 : decode cX5_against 110 = .ok (.iload_n 2, 1) := by decide +kernel
theorem dX5_against_111 : decode cX5_against 111 = .ok (.ireturn, 1) := by decide +kernel
theorem dX5_count_0 : decode cX5_count 0 = .ok (.iconst 0, 1) := by decide +kernel
theorem dX5_count_1 : decode cX5_count 1 = .ok (.istore_n 2, 1) := by decide +kernel
theorem dX5_count_2 : decode cX5_count 2 = .ok (.iconst 0, 1) := by decide +kernel
theorem dX5_count_3 : decode cX5_count 3 = .ok (.istore_n 3, 1) := by decide +kernel
theorem dX5_count_4 : decode cX5_count 4 = .ok (.iload_n 3, 1) := by decide +kernel
theorem dX5_count_5 : decode cX5_count 5 = .ok (.aload_n 0, 1) := by decide +kernel
theorem dX5_count_6 : decode cX5_count 6 = .ok (.getfield 141, 3) := by decide +kernel
theorem dX5_count_9 : decode cX5_count 9 = .ok (.if_icmp .ge 18, 3) := by decide +kernel
theorem dX5_count_12 : decode cX5_count 12 = .ok (.iload_n 2, 1) := by decide +kernel
theorem dX5_count_13 : decode cX5_count 13 = .ok (.aload_n 0, 1) := by decide +kernel
theorem dX5_count_14 : decode cX5_count 14 = .ok (.getfield 47, 3) := by decide +kernel
theorem dX5_count_17 : decode cX5_count 17 = .ok (.iload_n 3, 1) := by decide +kernel
theorem dX5_count_18 : decode cX5_count 18 = .ok (.iaload, 1) := by decide +kernel
theorem dX5_count_19 : decode cX5_count 19 = .ok (.iadd, 1) := by decide +kernel
theorem dX5_count_20 : decode cX5_count 20 = .ok (.istore_n 2, 1) := by decide +kernel
theorem dX5_count_21 : decode cX5_count 21 = .ok (.iinc 3 1, 3) := by decide +kernel
theorem dX5_count_24 : decode cX5_count 24 = .ok (.goto (-20), 3) := by decide +kernel
theorem dX5_count_27 : decode cX5_count 27 = .ok (.iload_n 1, 1) := by decide +kernel
theorem dX5_count_28 : decode cX5_count 28 = .ok (.tableswitch 58 0 4 #[36, 41, 46, 51, 53], 36) := by decide +kernel
theorem dX5_count_64 : decode cX5_count 64 = .ok (.aload_n 0, 1) := by decide +kernel
theorem dX5_count_65 : decode cX5_count 65 = .ok (.getfield 91, 3) := by decide +kernel
theorem dX5_count_68 : decode cX5_count 68 = .ok (.ireturn, 1) := by decide +kernel
theorem dX5_count_69 : decode cX5_count 69 = .ok (.aload_n 0, 1) := by decide +kernel
theorem dX5_count_70 : decode cX5_count 70 = .ok (.getfield 94, 3) := by decide +kernel
theorem dX5_count_73 : decode cX5_count 73 = .ok (.ireturn, 1) := by decide +kernel
theorem dX5_count_74 : decode cX5_count 74 = .ok (.aload_n 0, 1) := by decide +kernel
theorem dX5_count_75 : decode cX5_count 75 = .ok (.getfield 141, 3) := by decide +kernel
theorem dX5_count_78 : decode cX5_count 78 = .ok (.ireturn, 1) := by decide +kernel
theorem dX5_count_79 : decode cX5_count 79 = .ok (.iload_n 2, 1) := by decide +kernel
theorem dX5_count_80 : decode cX5_count 80 = .ok (.ireturn, 1) := by decide +kernel
theorem dX5_count_81 : decode cX5_count 81 = .ok (.aload_n 0, 1) := by decide +kernel
theorem dX5_count_82 : decode cX5_count 82 = .ok (.getfield 178, 3) := by decide +kernel
theorem dX5_count_85 : decode cX5_count 85 = .ok (.ireturn, 1) := by decide +kernel
theorem dX5_count_86 : decode cX5_count 86 = .ok (.iconst (-1), 1) := by decide +kernel
theorem dX5_count_87 : decode cX5_count 87 = .ok (.ireturn, 1) := by decide +kernel
